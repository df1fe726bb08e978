theorem r_Terms_latest_0 {d : Nat} {R : am_R} {I : Nat → Nat → Int32} {L : Nat → Nat → Int64} {h9 : Int32} {w : Int32} (h : am_Run am_X0 (am_meth d) 127 R 6 [some (.ref 85), some (.int h9), some (.int w), some (.int (-9 : Int32)), some (.int 0)] [] (am_mk I L, 0, 0)) : am_Run am_X0 (am_meth d) 127 R 0 [some (.ref 85), some (.int h9), some (.int w), none, none] [] (am_mk I L, 0, 0) := by
  refine ar_bipush (v := (-9 : Int32)) (q := 2) rfl rfl rfl ?_
  refine ar_istore_n (j := 3) (ls' := [some (.ref 85), some (.int h9), some (.int w), some (.int (-9 : Int32)), none]) (q := 3) rfl rfl rfl rfl rfl ?_
  refine ar_iconst (v := 0) (q := 4) rfl rfl rfl ?_
  refine ar_istore (ls' := [some (.ref 85), some (.int h9), some (.int w), some (.int (-9 : Int32)), some (.int 0)]) (q := 6) rfl rfl rfl rfl ?_
  exact am_Run.weak (ls' := _) (by exact ⟨rfl, ⟨rfl, ⟨rfl, ⟨rfl, ⟨rfl, trivial⟩⟩⟩⟩⟩) h
theorem r_Terms_latest_6 {d : Nat} {R : am_R} {I : Nat → Nat → Int32} {L : Nat → Nat → Int64} {h9 : Int32} {w : Int32} {best : Int32} {t : Nat} (h : (((nI t) < (I 85 0) → (t < 30 ∧ ((((I 86 t) = h9 → ((((I 87 t) ≤ w → (((best = (-9 : Int32) → (am_Run am_X0 (am_meth d) 127 R 6 [some (.ref 85), some (.int h9), some (.int w), some (.int (nI t)), some (.int (nI (t + 1)))] [] (am_mk I L, 0, 0))) ∧ (¬ best = (-9 : Int32) → (∃ j_6 : Nat, j_6 < 30 ∧ best = nI j_6 ∧ ((((I 87 t) < (I 87 j_6) → (am_Run am_X0 (am_meth d) 127 R 6 [some (.ref 85), some (.int h9), some (.int w), some (.int best), some (.int (nI (t + 1)))] [] (am_mk I L, 0, 0))) ∧ (¬ (I 87 t) < (I 87 j_6) → (am_Run am_X0 (am_meth d) 127 R 6 [some (.ref 85), some (.int h9), some (.int w), some (.int (nI t)), some (.int (nI (t + 1)))] [] (am_mk I L, 0, 0)))))))))) ∧ (¬ (I 87 t) ≤ w → (am_Run am_X0 (am_meth d) 127 R 6 [some (.ref 85), some (.int h9), some (.int w), some (.int best), some (.int (nI (t + 1)))] [] (am_mk I L, 0, 0)))))) ∧ (¬ (I 86 t) = h9 → (am_Run am_X0 (am_meth d) 127 R 6 [some (.ref 85), some (.int h9), some (.int w), some (.int best), some (.int (nI (t + 1)))] [] (am_mk I L, 0, 0))))))) ∧ (¬ (nI t) < (I 85 0) → (R (some (.int best)) (am_mk I L, 0, 0))))) : am_Run am_X0 (am_meth d) 127 R 6 [some (.ref 85), some (.int h9), some (.int w), some (.int best), some (.int (nI t))] [] (am_mk I L, 0, 0) := by
  refine ar_iload (q := 8) rfl rfl rfl ?_
  refine ar_aload_n (j := 0) (q := 9) rfl rfl rfl rfl ?_
  refine ar_getf (v := .int (I 85 0)) (q := 12) rfl rfl mk_85 rfl rfl ?_
  obtain ⟨hA, hB⟩ := h
  refine ar_br am_d_ge (t := 71) (q := 15) rfl rfl rfl (fun c_1 => ?_) (fun c_1 => ?_)
  · have h := hB c_1
    clear hA hB
    refine ar_iload_n (j := 3) (q := 72) rfl rfl rfl rfl ?_
    exact ar_iret rfl rfl h
  · have c_1 := Classical.not_not.mp c_1
    have h := hA c_1
    clear hA hB
    refine ar_aload_n (j := 0) (q := 16) rfl rfl rfl rfl ?_
    refine ar_getf (v := .ref 86) (q := 19) rfl rfl mk_85 rfl rfl ?_
    refine ar_iload (q := 21) rfl rfl rfl ?_
    obtain ⟨hx_2, h⟩ := h
    refine ar_iald (v := I 86 t) (q := 22) rfl mk_86 (am_inE rfl hx_2 (by decide)) (am_clE rfl hx_2 (by decide)) rfl ?_
    refine ar_iload_n (j := 1) (q := 23) rfl rfl rfl rfl ?_
    obtain ⟨hA, hB⟩ := h
    refine ar_br am_c_ne (t := 65) (q := 26) rfl rfl rfl (fun c_3 => ?_) (fun c_3 => ?_)
    · have h := hB c_3
      clear hA hB
      refine ar_iinc (v := nI (t + 1)) (ls' := [some (.ref 85), some (.int h9), some (.int w), some (.int best), some (.int (nI (t + 1)))]) (q := 68) rfl rfl rfl (nI_1 _) rfl rfl ?_
      refine ar_goto (t := 6) rfl rfl ?_
      exact am_Run.weak (ls' := _) (by exact ⟨rfl, ⟨rfl, ⟨rfl, ⟨rfl, ⟨rfl, trivial⟩⟩⟩⟩⟩) h
    · have c_3 := Classical.not_not.mp c_3
      have h := hA c_3
      clear hA hB
      refine ar_aload_n (j := 0) (q := 27) rfl rfl rfl rfl ?_
      refine ar_getf (v := .ref 87) (q := 30) rfl rfl mk_85 rfl rfl ?_
      refine ar_iload (q := 32) rfl rfl rfl ?_
      refine ar_iald (v := I 87 t) (q := 33) rfl mk_87 (am_inE rfl hx_2 (by decide)) (am_clE rfl hx_2 (by decide)) rfl ?_
      refine ar_iload_n (j := 2) (q := 34) rfl rfl rfl rfl ?_
      obtain ⟨hA, hB⟩ := h
      refine ar_br am_c_le (t := 40) (q := 37) rfl rfl rfl (fun c_4 => ?_) (fun c_4 => ?_)
      · have h := hA c_4
        clear hA hB
        refine ar_iload_n (j := 3) (q := 41) rfl rfl rfl rfl ?_
        refine ar_bipush (v := (-9 : Int32)) (q := 43) rfl rfl rfl ?_
        obtain ⟨hA, hB⟩ := h
        refine ar_br am_c_eq (t := 62) (q := 46) rfl rfl rfl (fun c_5 => ?_) (fun c_5 => ?_)
        · have h := hA c_5
          clear hA hB
          refine ar_iload (q := 64) rfl rfl rfl ?_
          refine ar_istore_n (j := 3) (ls' := [some (.ref 85), some (.int h9), some (.int w), some (.int (nI t)), some (.int (nI t))]) (q := 65) rfl rfl rfl rfl rfl ?_
          refine ar_iinc (v := nI (t + 1)) (ls' := [some (.ref 85), some (.int h9), some (.int w), some (.int (nI t)), some (.int (nI (t + 1)))]) (q := 68) rfl rfl rfl (nI_1 _) rfl rfl ?_
          refine ar_goto (t := 6) rfl rfl ?_
          exact am_Run.weak (ls' := _) (by exact ⟨rfl, ⟨rfl, ⟨rfl, ⟨rfl, ⟨rfl, trivial⟩⟩⟩⟩⟩) h
        · have h := hB c_5
          clear hA hB
          refine ar_aload_n (j := 0) (q := 47) rfl rfl rfl rfl ?_
          refine ar_getf (v := .ref 87) (q := 50) rfl rfl mk_85 rfl rfl ?_
          refine ar_iload (q := 52) rfl rfl rfl ?_
          refine ar_iald (v := I 87 t) (q := 53) rfl mk_87 (am_inE rfl hx_2 (by decide)) (am_clE rfl hx_2 (by decide)) rfl ?_
          refine ar_aload_n (j := 0) (q := 54) rfl rfl rfl rfl ?_
          refine ar_getf (v := .ref 87) (q := 57) rfl rfl mk_85 rfl rfl ?_
          refine ar_iload_n (j := 3) (q := 58) rfl rfl rfl rfl ?_
          obtain ⟨j_6, hx_7, hi_8, h⟩ := h
          refine ar_iald (v := I 87 j_6) (q := 59) rfl mk_87 (am_inE hi_8 hx_7 (by decide)) (am_clE hi_8 hx_7 (by decide)) rfl ?_
          obtain ⟨hA, hB⟩ := h
          refine ar_br am_c_lt (t := 65) (q := 62) rfl rfl rfl (fun c_9 => ?_) (fun c_9 => ?_)
          · have h := hA c_9
            clear hA hB
            refine ar_iinc (v := nI (t + 1)) (ls' := [some (.ref 85), some (.int h9), some (.int w), some (.int best), some (.int (nI (t + 1)))]) (q := 68) rfl rfl rfl (nI_1 _) rfl rfl ?_
            refine ar_goto (t := 6) rfl rfl ?_
            exact am_Run.weak (ls' := _) (by exact ⟨rfl, ⟨rfl, ⟨rfl, ⟨rfl, ⟨rfl, trivial⟩⟩⟩⟩⟩) h
          · have h := hB c_9
            clear hA hB
            refine ar_iload (q := 64) rfl rfl rfl ?_
            refine ar_istore_n (j := 3) (ls' := [some (.ref 85), some (.int h9), some (.int w), some (.int (nI t)), some (.int (nI t))]) (q := 65) rfl rfl rfl rfl rfl ?_
            refine ar_iinc (v := nI (t + 1)) (ls' := [some (.ref 85), some (.int h9), some (.int w), some (.int (nI t)), some (.int (nI (t + 1)))]) (q := 68) rfl rfl rfl (nI_1 _) rfl rfl ?_
            refine ar_goto (t := 6) rfl rfl ?_
            exact am_Run.weak (ls' := _) (by exact ⟨rfl, ⟨rfl, ⟨rfl, ⟨rfl, ⟨rfl, trivial⟩⟩⟩⟩⟩) h
      · have h := hB c_4
        clear hA hB
        refine ar_goto (t := 65) rfl rfl ?_
        refine ar_iinc (v := nI (t + 1)) (ls' := [some (.ref 85), some (.int h9), some (.int w), some (.int best), some (.int (nI (t + 1)))]) (q := 68) rfl rfl rfl (nI_1 _) rfl rfl ?_
        refine ar_goto (t := 6) rfl rfl ?_
        exact am_Run.weak (ls' := _) (by exact ⟨rfl, ⟨rfl, ⟨rfl, ⟨rfl, ⟨rfl, trivial⟩⟩⟩⟩⟩) h
theorem r_Terms_inForce_0 {d : Nat} {R : am_R} {I : Nat → Nat → Int32} {L : Nat → Nat → Int64} {h9 : Int32} {w : Int32} (h : am_meth d 127 [.ref 85, .int h9, .int w] (am_mk I L, 0, 0) (am_ri (fun z_1 I_2 L_3 => ((z_1 = (-9 : Int32) → (am_meth d 127 [.ref 85, .int (-1 : Int32), .int w] (am_mk I_2 L_3, 0, 0) (am_ri (fun z_5 I_6 L_7 => R (some (.int z_5)) (am_mk I_6 L_7, 0, 0))))) ∧ (¬ z_1 = (-9 : Int32) → (R (some (.int z_1)) (am_mk I_2 L_3, 0, 0))))))) : am_Run am_X0 (am_meth d) 126 R 0 [some (.ref 85), some (.int h9), some (.int w), none] [] (am_mk I L, 0, 0) := by
  refine ar_aload_n (j := 0) (q := 1) rfl rfl rfl rfl ?_
  refine ar_iload_n (j := 1) (q := 2) rfl rfl rfl rfl ?_
  refine ar_iload_n (j := 2) (q := 3) rfl rfl rfl rfl ?_
  refine ar_invv (as := [.int h9, .int w]) (rest := []) (b2 := (0, 0)) (b3 := (0, 0)) (q := 6) rfl rfl rfl rfl mk_85 rfl rfl rfl rfl rfl ?_
  refine am_meth_mono d _ _ _ _ _ (fun v9 m9 h9 => ?_) h
  obtain ⟨z_1, I_2, L_3, rfl, rfl, h⟩ := h9
  show am_Run am_X0 (am_meth d) 126 R 6 [some (.ref 85), some (.int h9), some (.int w), none] [.int z_1] (am_mk I_2 L_3, 0, 0)
  refine ar_istore_n (j := 3) (ls' := [some (.ref 85), some (.int h9), some (.int w), some (.int z_1)]) (q := 7) rfl rfl rfl rfl rfl ?_
  refine ar_iload_n (j := 3) (q := 8) rfl rfl rfl rfl ?_
  refine ar_bipush (v := (-9 : Int32)) (q := 10) rfl rfl rfl ?_
  obtain ⟨hA, hB⟩ := h
  refine ar_br am_c_ne (t := 22) (q := 13) rfl rfl rfl (fun c_4 => ?_) (fun c_4 => ?_)
  · have h := hB c_4
    clear hA hB
    refine ar_iload_n (j := 3) (q := 23) rfl rfl rfl rfl ?_
    exact ar_iret rfl rfl h
  · have c_4 := Classical.not_not.mp c_4
    have h := hA c_4
    clear hA hB
    refine ar_aload_n (j := 0) (q := 14) rfl rfl rfl rfl ?_
    refine ar_iconst (v := (-1 : Int32)) (q := 15) rfl rfl rfl ?_
    refine ar_iload_n (j := 2) (q := 16) rfl rfl rfl rfl ?_
    refine ar_invv (as := [.int (-1 : Int32), .int w]) (rest := []) (b2 := (0, 0)) (b3 := (0, 0)) (q := 19) rfl rfl rfl rfl mk_85 rfl rfl rfl rfl rfl ?_
    refine am_meth_mono d _ _ _ _ _ (fun v9 m9 h9 => ?_) h
    obtain ⟨z_5, I_6, L_7, rfl, rfl, h⟩ := h9
    show am_Run am_X0 (am_meth d) 126 R 19 [some (.ref 85), some (.int h9), some (.int w), some (.int z_1)] [.int z_5] (am_mk I_6 L_7, 0, 0)
    refine ar_goto (t := 23) rfl rfl ?_
    exact ar_iret rfl rfl h
theorem r_M_latest_0 {d : Nat} {R : am_R} {I : Nat → Nat → Int32} {L : Nat → Nat → Int64} {h9 : Int32} (h : am_Run am_X0 (am_meth d) 173 R 4 [some (.ref 113), some (.int h9), some (.int (-1 : Int32)), some (.int 0)] [] (am_mk I L, 0, 0)) : am_Run am_X0 (am_meth d) 173 R 0 [some (.ref 113), some (.int h9), none, none] [] (am_mk I L, 0, 0) := by
  refine ar_iconst (v := (-1 : Int32)) (q := 1) rfl rfl rfl ?_
  refine ar_istore_n (j := 2) (ls' := [some (.ref 113), some (.int h9), some (.int (-1 : Int32)), none]) (q := 2) rfl rfl rfl rfl rfl ?_
  refine ar_iconst (v := 0) (q := 3) rfl rfl rfl ?_
  refine ar_istore_n (j := 3) (ls' := [some (.ref 113), some (.int h9), some (.int (-1 : Int32)), some (.int 0)]) (q := 4) rfl rfl rfl rfl rfl ?_
  exact am_Run.weak (ls' := _) (by exact ⟨rfl, ⟨rfl, ⟨rfl, ⟨rfl, trivial⟩⟩⟩⟩) h
theorem r_M_latest_4 {d : Nat} {R : am_R} {I : Nat → Nat → Int32} {L : Nat → Nat → Int64} {h9 : Int32} {best : Int32} {t : Nat} (h : (((nI t) < (I 113 25) → (t < 30 ∧ ((((I 134 t) = h9 → ((((I 135 t) ≤ (I 113 0) → (((best < 0 → (am_Run am_X0 (am_meth d) 173 R 4 [some (.ref 113), some (.int h9), some (.int (nI t)), some (.int (nI (t + 1)))] [] (am_mk I L, 0, 0))) ∧ (¬ best < 0 → (∃ j_6 : Nat, j_6 < 30 ∧ best = nI j_6 ∧ ((((I 135 t) < (I 135 j_6) → (am_Run am_X0 (am_meth d) 173 R 4 [some (.ref 113), some (.int h9), some (.int best), some (.int (nI (t + 1)))] [] (am_mk I L, 0, 0))) ∧ (¬ (I 135 t) < (I 135 j_6) → (am_Run am_X0 (am_meth d) 173 R 4 [some (.ref 113), some (.int h9), some (.int (nI t)), some (.int (nI (t + 1)))] [] (am_mk I L, 0, 0)))))))))) ∧ (¬ (I 135 t) ≤ (I 113 0) → (am_Run am_X0 (am_meth d) 173 R 4 [some (.ref 113), some (.int h9), some (.int best), some (.int (nI (t + 1)))] [] (am_mk I L, 0, 0)))))) ∧ (¬ (I 134 t) = h9 → (am_Run am_X0 (am_meth d) 173 R 4 [some (.ref 113), some (.int h9), some (.int best), some (.int (nI (t + 1)))] [] (am_mk I L, 0, 0))))))) ∧ (¬ (nI t) < (I 113 25) → (R (some (.int best)) (am_mk I L, 0, 0))))) : am_Run am_X0 (am_meth d) 173 R 4 [some (.ref 113), some (.int h9), some (.int best), some (.int (nI t))] [] (am_mk I L, 0, 0) := by
  refine ar_iload_n (j := 3) (q := 5) rfl rfl rfl rfl ?_
  refine ar_aload_n (j := 0) (q := 6) rfl rfl rfl rfl ?_
  refine ar_getf (v := .int (I 113 25)) (q := 9) rfl rfl mk_113 rfl rfl ?_
  obtain ⟨hA, hB⟩ := h
  refine ar_br am_d_ge (t := 62) (q := 12) rfl rfl rfl (fun c_1 => ?_) (fun c_1 => ?_)
  · have h := hB c_1
    clear hA hB
    refine ar_iload_n (j := 2) (q := 63) rfl rfl rfl rfl ?_
    exact ar_iret rfl rfl h
  · have c_1 := Classical.not_not.mp c_1
    have h := hA c_1
    clear hA hB
    refine ar_aload_n (j := 0) (q := 13) rfl rfl rfl rfl ?_
    refine ar_getf (v := .ref 134) (q := 16) rfl rfl mk_113 rfl rfl ?_
    refine ar_iload_n (j := 3) (q := 17) rfl rfl rfl rfl ?_
    obtain ⟨hx_2, h⟩ := h
    refine ar_iald (v := I 134 t) (q := 18) rfl mk_134 (am_inE rfl hx_2 (by decide)) (am_clE rfl hx_2 (by decide)) rfl ?_
    refine ar_iload_n (j := 1) (q := 19) rfl rfl rfl rfl ?_
    obtain ⟨hA, hB⟩ := h
    refine ar_br am_c_ne (t := 56) (q := 22) rfl rfl rfl (fun c_3 => ?_) (fun c_3 => ?_)
    · have h := hB c_3
      clear hA hB
      refine ar_iinc (v := nI (t + 1)) (ls' := [some (.ref 113), some (.int h9), some (.int best), some (.int (nI (t + 1)))]) (q := 59) rfl rfl rfl (nI_1 _) rfl rfl ?_
      refine ar_goto (t := 4) rfl rfl ?_
      exact am_Run.weak (ls' := _) (by exact ⟨rfl, ⟨rfl, ⟨rfl, ⟨rfl, trivial⟩⟩⟩⟩) h
    · have c_3 := Classical.not_not.mp c_3
      have h := hA c_3
      clear hA hB
      refine ar_aload_n (j := 0) (q := 23) rfl rfl rfl rfl ?_
      refine ar_getf (v := .ref 135) (q := 26) rfl rfl mk_113 rfl rfl ?_
      refine ar_iload_n (j := 3) (q := 27) rfl rfl rfl rfl ?_
      refine ar_iald (v := I 135 t) (q := 28) rfl mk_135 (am_inE rfl hx_2 (by decide)) (am_clE rfl hx_2 (by decide)) rfl ?_
      refine ar_aload_n (j := 0) (q := 29) rfl rfl rfl rfl ?_
      refine ar_getf (v := .int (I 113 0)) (q := 32) rfl rfl mk_113 rfl rfl ?_
      obtain ⟨hA, hB⟩ := h
      refine ar_br am_d_gt (t := 56) (q := 35) rfl rfl rfl (fun c_4 => ?_) (fun c_4 => ?_)
      · have h := hB c_4
        clear hA hB
        refine ar_iinc (v := nI (t + 1)) (ls' := [some (.ref 113), some (.int h9), some (.int best), some (.int (nI (t + 1)))]) (q := 59) rfl rfl rfl (nI_1 _) rfl rfl ?_
        refine ar_goto (t := 4) rfl rfl ?_
        exact am_Run.weak (ls' := _) (by exact ⟨rfl, ⟨rfl, ⟨rfl, ⟨rfl, trivial⟩⟩⟩⟩) h
      · have c_4 := Classical.not_not.mp c_4
        have h := hA c_4
        clear hA hB
        refine ar_iload_n (j := 2) (q := 36) rfl rfl rfl rfl ?_
        obtain ⟨hA, hB⟩ := h
        refine ar_b0 am_c_lt (t := 54) (q := 39) rfl rfl rfl (fun c_5 => ?_) (fun c_5 => ?_)
        · have h := hA c_5
          clear hA hB
          refine ar_iload_n (j := 3) (q := 55) rfl rfl rfl rfl ?_
          refine ar_istore_n (j := 2) (ls' := [some (.ref 113), some (.int h9), some (.int (nI t)), some (.int (nI t))]) (q := 56) rfl rfl rfl rfl rfl ?_
          refine ar_iinc (v := nI (t + 1)) (ls' := [some (.ref 113), some (.int h9), some (.int (nI t)), some (.int (nI (t + 1)))]) (q := 59) rfl rfl rfl (nI_1 _) rfl rfl ?_
          refine ar_goto (t := 4) rfl rfl ?_
          exact am_Run.weak (ls' := _) (by exact ⟨rfl, ⟨rfl, ⟨rfl, ⟨rfl, trivial⟩⟩⟩⟩) h
        · have h := hB c_5
          clear hA hB
          refine ar_aload_n (j := 0) (q := 40) rfl rfl rfl rfl ?_
          refine ar_getf (v := .ref 135) (q := 43) rfl rfl mk_113 rfl rfl ?_
          refine ar_iload_n (j := 3) (q := 44) rfl rfl rfl rfl ?_
          refine ar_iald (v := I 135 t) (q := 45) rfl mk_135 (am_inE rfl hx_2 (by decide)) (am_clE rfl hx_2 (by decide)) rfl ?_
          refine ar_aload_n (j := 0) (q := 46) rfl rfl rfl rfl ?_
          refine ar_getf (v := .ref 135) (q := 49) rfl rfl mk_113 rfl rfl ?_
          refine ar_iload_n (j := 2) (q := 50) rfl rfl rfl rfl ?_
          obtain ⟨j_6, hx_7, hi_8, h⟩ := h
          refine ar_iald (v := I 135 j_6) (q := 51) rfl mk_135 (am_inE hi_8 hx_7 (by decide)) (am_clE hi_8 hx_7 (by decide)) rfl ?_
          obtain ⟨hA, hB⟩ := h
          refine ar_br am_c_lt (t := 56) (q := 54) rfl rfl rfl (fun c_9 => ?_) (fun c_9 => ?_)
          · have h := hA c_9
            clear hA hB
            refine ar_iinc (v := nI (t + 1)) (ls' := [some (.ref 113), some (.int h9), some (.int best), some (.int (nI (t + 1)))]) (q := 59) rfl rfl rfl (nI_1 _) rfl rfl ?_
            refine ar_goto (t := 4) rfl rfl ?_
            exact am_Run.weak (ls' := _) (by exact ⟨rfl, ⟨rfl, ⟨rfl, ⟨rfl, trivial⟩⟩⟩⟩) h
          · have h := hB c_9
            clear hA hB
            refine ar_iload_n (j := 3) (q := 55) rfl rfl rfl rfl ?_
            refine ar_istore_n (j := 2) (ls' := [some (.ref 113), some (.int h9), some (.int (nI t)), some (.int (nI t))]) (q := 56) rfl rfl rfl rfl rfl ?_
            refine ar_iinc (v := nI (t + 1)) (ls' := [some (.ref 113), some (.int h9), some (.int (nI t)), some (.int (nI (t + 1)))]) (q := 59) rfl rfl rfl (nI_1 _) rfl rfl ?_
            refine ar_goto (t := 4) rfl rfl ?_
            exact am_Run.weak (ls' := _) (by exact ⟨rfl, ⟨rfl, ⟨rfl, ⟨rfl, trivial⟩⟩⟩⟩) h
theorem r_Rules_hasBadTwin_0 {d : Nat} {R : am_R} {I : Nat → Nat → Int32} {L : Nat → Nat → Int64} {k : Nat} (h : am_Run am_X0 (am_meth d) 109 R 2 [some (.ref 99), some (.int (nI k)), some (.int 0)] [] (am_mk I L, 0, 0)) : am_Run am_X0 (am_meth d) 109 R 0 [some (.ref 99), some (.int (nI k)), none] [] (am_mk I L, 0, 0) := by
  refine ar_iconst (v := 0) (q := 1) rfl rfl rfl ?_
  refine ar_istore_n (j := 2) (ls' := [some (.ref 99), some (.int (nI k)), some (.int 0)]) (q := 2) rfl rfl rfl rfl rfl ?_
  exact am_Run.weak (ls' := _) (by exact ⟨rfl, ⟨rfl, ⟨rfl, trivial⟩⟩⟩) h
theorem r_Rules_hasBadTwin_2 {d : Nat} (hd : 1 ≤ d) {R : am_R} {I : Nat → Nat → Int32} {L : Nat → Nat → Int64} {k : Nat} {j : Nat} (h : (((nI j) < (I 16 0) → ((((nI j) = (nI k) → (am_Run am_X0 (am_meth d) 109 R 2 [some (.ref 99), some (.int (nI k)), some (.int (nI (j + 1)))] [] (am_mk I L, 0, 0))) ∧ (¬ (nI j) = (nI k) → (j < 20 ∧ ((((I 76 j) < 0 → ((j < 20) ∧ ((k < 20) ∧ (((s_alf (I 20) j k = true → (R (some (.int 1)) (am_mk I L, 0, 0))) ∧ (¬ (s_alf (I 20) j k = true) → (am_Run am_X0 (am_meth d) 109 R 2 [some (.ref 99), some (.int (nI k)), some (.int (nI (j + 1)))] [] (am_mk I L, 0, 0)))))))) ∧ (¬ (I 76 j) < 0 → (am_Run am_X0 (am_meth d) 109 R 2 [some (.ref 99), some (.int (nI k)), some (.int (nI (j + 1)))] [] (am_mk I L, 0, 0)))))))))) ∧ (¬ (nI j) < (I 16 0) → (R (some (.int 0)) (am_mk I L, 0, 0))))) : am_Run am_X0 (am_meth d) 109 R 2 [some (.ref 99), some (.int (nI k)), some (.int (nI j))] [] (am_mk I L, 0, 0) := by
  refine ar_iload_n (j := 2) (q := 3) rfl rfl rfl rfl ?_
  refine ar_aload_n (j := 0) (q := 4) rfl rfl rfl rfl ?_
  refine ar_getf (v := .ref 16) (q := 7) rfl rfl mk_99 rfl rfl ?_
  refine ar_getf (v := .int (I 16 0)) (q := 10) rfl rfl mk_16 rfl rfl ?_
  obtain ⟨hA, hB⟩ := h
  refine ar_br am_d_ge (t := 50) (q := 13) rfl rfl rfl (fun c_1 => ?_) (fun c_1 => ?_)
  · have h := hB c_1
    clear hA hB
    refine ar_iconst (v := 0) (q := 51) rfl rfl rfl ?_
    exact ar_zret rfl rfl (Or.inl rfl) h
  · have c_1 := Classical.not_not.mp c_1
    have h := hA c_1
    clear hA hB
    refine ar_iload_n (j := 2) (q := 14) rfl rfl rfl rfl ?_
    refine ar_iload_n (j := 1) (q := 15) rfl rfl rfl rfl ?_
    obtain ⟨hA, hB⟩ := h
    refine ar_br am_c_eq (t := 44) (q := 18) rfl rfl rfl (fun c_2 => ?_) (fun c_2 => ?_)
    · have h := hA c_2
      clear hA hB
      refine ar_iinc (v := nI (j + 1)) (ls' := [some (.ref 99), some (.int (nI k)), some (.int (nI (j + 1)))]) (q := 47) rfl rfl rfl (nI_1 _) rfl rfl ?_
      refine ar_goto (t := 2) rfl rfl ?_
      exact am_Run.weak (ls' := _) (by exact ⟨rfl, ⟨rfl, ⟨rfl, trivial⟩⟩⟩) h
    · have h := hB c_2
      clear hA hB
      refine ar_aload_n (j := 0) (q := 19) rfl rfl rfl rfl ?_
      refine ar_getf (v := .ref 74) (q := 22) rfl rfl mk_99 rfl rfl ?_
      refine ar_getf (v := .ref 76) (q := 25) rfl rfl mk_74 rfl rfl ?_
      refine ar_iload_n (j := 2) (q := 26) rfl rfl rfl rfl ?_
      obtain ⟨hx_3, h⟩ := h
      refine ar_iald (v := I 76 j) (q := 27) rfl mk_76 (am_inE rfl hx_3 (by decide)) (am_clE rfl hx_3 (by decide)) rfl ?_
      obtain ⟨hA, hB⟩ := h
      refine ar_b0 am_d_ge (t := 44) (q := 30) rfl rfl rfl (fun c_4 => ?_) (fun c_4 => ?_)
      · have h := hB c_4
        clear hA hB
        refine ar_iinc (v := nI (j + 1)) (ls' := [some (.ref 99), some (.int (nI k)), some (.int (nI (j + 1)))]) (q := 47) rfl rfl rfl (nI_1 _) rfl rfl ?_
        refine ar_goto (t := 2) rfl rfl ?_
        exact am_Run.weak (ls' := _) (by exact ⟨rfl, ⟨rfl, ⟨rfl, trivial⟩⟩⟩) h
      · have c_4 := Classical.not_not.mp c_4
        have h := hA c_4
        clear hA hB
        refine ar_aload_n (j := 0) (q := 31) rfl rfl rfl rfl ?_
        refine ar_getf (v := .ref 16) (q := 34) rfl rfl mk_99 rfl rfl ?_
        refine ar_iload_n (j := 2) (q := 35) rfl rfl rfl rfl ?_
        refine ar_iload_n (j := 1) (q := 36) rfl rfl rfl rfl ?_
        refine ar_invv (as := [.int (nI j), .int (nI k)]) (rest := []) (b2 := (0, 0)) (b3 := (0, 0)) (q := 39) rfl rfl rfl rfl mk_16 rfl rfl rfl rfl rfl ?_
        obtain ⟨hp_6, h⟩ := h
        obtain ⟨hp_7, h⟩ := h
        obtain ⟨hA, hB⟩ := h
        refine ok_Ke_areAlf (by omega) rfl rfl hp_6 hp_7 (fun c_5 => ?_) (fun c_5 => ?_)
        · have h := hA c_5
          clear hA hB
          show am_Run am_X0 (am_meth d) 109 R 39 [some (.ref 99), some (.int (nI k)), some (.int (nI j))] [.int 1] (am_mk I L, 0, 0)
          refine ar_b0 am_c_eq (t := 44) (q := 42) rfl rfl rfl (fun c9 => absurd c9 (by decide)) (fun _ => ?_)
          refine ar_iconst (v := 1) (q := 43) rfl rfl rfl ?_
          exact ar_zret rfl rfl (Or.inr rfl) h
        · have h := hB c_5
          clear hA hB
          show am_Run am_X0 (am_meth d) 109 R 39 [some (.ref 99), some (.int (nI k)), some (.int (nI j))] [.int 0] (am_mk I L, 0, 0)
          refine ar_b0 am_c_eq (t := 44) (q := 42) rfl rfl rfl (fun _ => ?_) (fun c9 => absurd (by decide) c9)
          refine ar_iinc (v := nI (j + 1)) (ls' := [some (.ref 99), some (.int (nI k)), some (.int (nI (j + 1)))]) (q := 47) rfl rfl rfl (nI_1 _) rfl rfl ?_
          refine ar_goto (t := 2) rfl rfl ?_
          exact am_Run.weak (ls' := _) (by exact ⟨rfl, ⟨rfl, ⟨rfl, trivial⟩⟩⟩) h
theorem r_M_sorts_0 {d : Nat} {R : am_R} {I : Nat → Nat → Int32} {L : Nat → Nat → Int64} {x : Int32} (h : am_Run am_X0 (am_meth d) 188 R 4 [some (.ref 113), some (.int x), some (.int 0), some (.int 0)] [] (am_mk I L, 0, 0)) : am_Run am_X0 (am_meth d) 188 R 0 [some (.ref 113), some (.int x), none, none] [] (am_mk I L, 0, 0) := by
  refine ar_iconst (v := 0) (q := 1) rfl rfl rfl ?_
  refine ar_istore_n (j := 2) (ls' := [some (.ref 113), some (.int x), some (.int 0), none]) (q := 2) rfl rfl rfl rfl rfl ?_
  refine ar_iconst (v := 0) (q := 3) rfl rfl rfl ?_
  refine ar_istore_n (j := 3) (ls' := [some (.ref 113), some (.int x), some (.int 0), some (.int 0)]) (q := 4) rfl rfl rfl rfl rfl ?_
  exact am_Run.weak (ls' := _) (by exact ⟨rfl, ⟨rfl, ⟨rfl, ⟨rfl, trivial⟩⟩⟩⟩) h
theorem r_M_sorts_4 {d : Nat} {R : am_R} {I : Nat → Nat → Int32} {L : Nat → Nat → Int64} {x : Int32} {sum : Int32} {j : Nat} (h : (((nI j) < 8 → (am_Run am_X0 (am_meth d) 188 R 4 [some (.ref 113), some (.int x), some (.int (sum + ((x >>> ((nI j) &&& 31)) &&& 1))), some (.int (nI (j + 1)))] [] (am_mk I L, 0, 0))) ∧ (¬ (nI j) < 8 → (R (some (.int sum)) (am_mk I L, 0, 0))))) : am_Run am_X0 (am_meth d) 188 R 4 [some (.ref 113), some (.int x), some (.int sum), some (.int (nI j))] [] (am_mk I L, 0, 0) := by
  refine ar_iload_n (j := 3) (q := 5) rfl rfl rfl rfl ?_
  refine ar_bipush (v := 8) (q := 7) rfl rfl rfl ?_
  obtain ⟨hA, hB⟩ := h
  refine ar_br am_d_ge (t := 24) (q := 10) rfl rfl rfl (fun c_1 => ?_) (fun c_1 => ?_)
  · have h := hB c_1
    clear hA hB
    refine ar_iload_n (j := 2) (q := 25) rfl rfl rfl rfl ?_
    exact ar_iret rfl rfl h
  · have c_1 := Classical.not_not.mp c_1
    have h := hA c_1
    clear hA hB
    refine ar_iload_n (j := 2) (q := 11) rfl rfl rfl rfl ?_
    refine ar_iload_n (j := 1) (q := 12) rfl rfl rfl rfl ?_
    refine ar_iload_n (j := 3) (q := 13) rfl rfl rfl rfl ?_
    refine ar_ib (i := .ishr) (z := x >>> ((nI j) &&& 31)) (q := 14) rfl rfl rfl rfl rfl ?_
    refine ar_iconst (v := 1) (q := 15) rfl rfl rfl ?_
    refine ar_ib (i := .iand) (z := (x >>> ((nI j) &&& 31)) &&& 1) (q := 16) rfl rfl rfl rfl rfl ?_
    refine ar_ib (i := .iadd) (z := sum + ((x >>> ((nI j) &&& 31)) &&& 1)) (q := 17) rfl rfl rfl rfl rfl ?_
    refine ar_istore_n (j := 2) (ls' := [some (.ref 113), some (.int x), some (.int (sum + ((x >>> ((nI j) &&& 31)) &&& 1))), some (.int (nI j))]) (q := 18) rfl rfl rfl rfl rfl ?_
    refine ar_iinc (v := nI (j + 1)) (ls' := [some (.ref 113), some (.int x), some (.int (sum + ((x >>> ((nI j) &&& 31)) &&& 1))), some (.int (nI (j + 1)))]) (q := 21) rfl rfl rfl (nI_1 _) rfl rfl ?_
    refine ar_goto (t := 4) rfl rfl ?_
    exact am_Run.weak (ls' := _) (by exact ⟨rfl, ⟨rfl, ⟨rfl, ⟨rfl, trivial⟩⟩⟩⟩) h
theorem r_M_kept_0 {d : Nat} {R : am_R} {I : Nat → Nat → Int32} {L : Nat → Nat → Int64} {v : Int64} (h : (((lg_cmp v (1000000000 : Int64)) ≤ 0 → ((((lg_cmp v (-1000000000 : Int64)) < 0 → (R (some (.long (-1000000000 : Int64))) (am_mk I L, 0, 0))) ∧ (¬ (lg_cmp v (-1000000000 : Int64)) < 0 → (R (some (.long v)) (am_mk I L, 0, 0)))))) ∧ (¬ (lg_cmp v (1000000000 : Int64)) ≤ 0 → (R (some (.long (1000000000 : Int64))) (am_mk I L, 0, 0))))) : am_Run am_X0 (am_meth d) 178 R 0 [some (.ref 113), some (.long v), none] [] (am_mk I L, 0, 0) := by
  refine ar_lload_n (j := 1) (q := 1) rfl rfl rfl rfl ?_
  refine ar_ldc2 (v := 1000000000) (q := 4) rfl rfl rfl ?_
  refine ar_st (i := .lcmp) (n := 1) (st' := [.int (lg_cmp v (1000000000 : Int64))]) (q := 5) rfl rfl rfl rfl ?_
  obtain ⟨hA, hB⟩ := h
  refine ar_b0 am_c_le (t := 14) (q := 8) rfl rfl rfl (fun c_1 => ?_) (fun c_1 => ?_)
  · have h := hA c_1
    clear hA hB
    refine ar_lload_n (j := 1) (q := 15) rfl rfl rfl rfl ?_
    refine ar_ldc2 (v := (-1000000000)) (q := 18) rfl rfl rfl ?_
    refine ar_st (i := .lcmp) (n := 1) (st' := [.int (lg_cmp v (-1000000000 : Int64))]) (q := 19) rfl rfl rfl rfl ?_
    obtain ⟨hA, hB⟩ := h
    refine ar_b0 am_d_ge (t := 28) (q := 22) rfl rfl rfl (fun c_2 => ?_) (fun c_2 => ?_)
    · have h := hB c_2
      clear hA hB
      refine ar_lload_n (j := 1) (q := 29) rfl rfl rfl rfl ?_
      exact ar_lret rfl rfl h
    · have c_2 := Classical.not_not.mp c_2
      have h := hA c_2
      clear hA hB
      refine ar_ldc2 (v := (-1000000000)) (q := 25) rfl rfl rfl ?_
      refine ar_goto (t := 29) rfl rfl ?_
      exact ar_lret rfl rfl h
  · have h := hB c_1
    clear hA hB
    refine ar_ldc2 (v := 1000000000) (q := 11) rfl rfl rfl ?_
    refine ar_goto (t := 29) rfl rfl ?_
    exact ar_lret rfl rfl h
theorem r_Terms_held_0 {d : Nat} (hd : 1 ≤ d) {R : am_R} {I : Nat → Nat → Int32} {L : Nat → Nat → Int64} {v : Int64} (h : R (some (.long (if (if v < (1000000000 : Int64) then v else (1000000000 : Int64)) < (-1000000000 : Int64) then (-1000000000 : Int64) else (if v < (1000000000 : Int64) then v else (1000000000 : Int64))))) (am_mk I L, 0, 0)) : am_Run am_X0 (am_meth d) 131 R 0 [some (.long v), none] [] (am_mk I L, 0, 0) := by
  refine ar_ldc2 (v := (-1000000000)) (q := 3) rfl rfl rfl ?_
  refine ar_ldc2 (v := 1000000000) (q := 6) rfl rfl rfl ?_
  refine ar_lload_n (j := 0) (q := 7) rfl rfl rfl rfl ?_
  refine ar_invs (as := [.long (1000000000 : Int64), .long v]) (rest := [.long (-1000000000 : Int64)]) (b2 := (0, 0)) (b3 := (0, 0)) (q := 10) rfl rfl rfl rfl rfl rfl rfl rfl rfl ?_
  obtain ⟨d9, rfl⟩ : ∃ d9, d = d9 + 1 := ⟨d - 1, by omega⟩
  refine ar_lmin ?_
  show am_Run am_X0 (am_meth (d9 + 1)) 131 R 10 [some (.long v), none] [.long (if v < (1000000000 : Int64) then v else (1000000000 : Int64)), .long (-1000000000 : Int64)] (am_mk I L, 0, 0)
  generalize hd9 : d9 + 1 = d at *
  refine ar_invs (as := [.long (-1000000000 : Int64), .long (if v < (1000000000 : Int64) then v else (1000000000 : Int64))]) (rest := []) (b2 := (0, 0)) (b3 := (0, 0)) (q := 13) rfl rfl rfl rfl rfl rfl rfl rfl rfl ?_
  obtain ⟨d9, rfl⟩ : ∃ d9, d = d9 + 1 := ⟨d - 1, by omega⟩
  refine ar_lmax ?_
  show am_Run am_X0 (am_meth (d9 + 1)) 131 R 13 [some (.long v), none] [.long (if (if v < (1000000000 : Int64) then v else (1000000000 : Int64)) < (-1000000000 : Int64) then (-1000000000 : Int64) else (if v < (1000000000 : Int64) then v else (1000000000 : Int64)))] (am_mk I L, 0, 0)
  generalize hd9 : d9 + 1 = d at *
  exact ar_lret rfl rfl h
theorem r_Terms_joined_0 {d : Nat} {R : am_R} {I : Nat → Nat → Int32} {L : Nat → Nat → Int64} {g : Int32} {a : Int64} {b : Int64} (h : (((g : Int32).toInt = 42 → (R (some (.long (a * b))) (am_mk I L, 0, 0))) ∧ ((g : Int32).toInt = 43 → (R (some (.long (a + b))) (am_mk I L, 0, 0))) ∧ ((g : Int32).toInt = 45 → (R (some (.long (a - b))) (am_mk I L, 0, 0))) ∧ ((g : Int32).toInt = 47 → ((((lg_cmp b (0 : Int64)) = 0 → (R (some (.long (0 : Int64))) (am_mk I L, 0, 0))) ∧ (¬ (lg_cmp b (0 : Int64)) = 0 → (¬ b = 0 ∧ (R (some (.long (a / b))) (am_mk I L, 0, 0))))))) ∧ ((g : Int32).toInt = 60 → ((((lg_cmp a b) < 0 → (R (some (.long (1 : Int64))) (am_mk I L, 0, 0))) ∧ (¬ (lg_cmp a b) < 0 → (R (some (.long (0 : Int64))) (am_mk I L, 0, 0)))))) ∧ ((g : Int32).toInt = 61 → ((((lg_cmp a b) = 0 → (R (some (.long (1 : Int64))) (am_mk I L, 0, 0))) ∧ (¬ (lg_cmp a b) = 0 → (R (some (.long (0 : Int64))) (am_mk I L, 0, 0)))))) ∧ (((g : Int32).toInt < 42 ∨ 61 < (g : Int32).toInt ∨ (g : Int32).toInt = 44 ∨ (g : Int32).toInt = 46 ∨ (g : Int32).toInt = 48 ∨ (g : Int32).toInt = 49 ∨ (g : Int32).toInt = 50 ∨ (g : Int32).toInt = 51 ∨ (g : Int32).toInt = 52 ∨ (g : Int32).toInt = 53 ∨ (g : Int32).toInt = 54 ∨ (g : Int32).toInt = 55 ∨ (g : Int32).toInt = 56 ∨ (g : Int32).toInt = 57 ∨ (g : Int32).toInt = 58 ∨ (g : Int32).toInt = 59) → ((((lg_cmp a b) ≤ 0 → (R (some (.long (0 : Int64))) (am_mk I L, 0, 0))) ∧ (¬ (lg_cmp a b) ≤ 0 → (R (some (.long (1 : Int64))) (am_mk I L, 0, 0)))))))) : am_Run am_X0 (am_meth d) 130 R 0 [some (.int g), some (.long a), none, some (.long b), none] [] (am_mk I L, 0, 0) := by
  refine ar_iload_n (j := 0) (q := 1) rfl rfl rfl rfl ?_
  obtain ⟨hT0, hT1, hT3, hT5, hT18, hT19, hD⟩ := h
  refine ar_tsw (t0 := 146) rfl rfl (fun c_2 => ?_) (fun c_2 => ?_)
  · have h := hD (by omega)
    clear hT0 hT1 hT3 hT5 hT18 hT19 hD
    refine ar_lload_n (j := 1) (q := 147) rfl rfl rfl rfl ?_
    refine ar_lload_n (j := 3) (q := 148) rfl rfl rfl rfl ?_
    refine ar_st (i := .lcmp) (n := 1) (st' := [.int (lg_cmp a b)]) (q := 149) rfl rfl rfl rfl ?_
    obtain ⟨hA, hB⟩ := h
    refine ar_b0 am_c_le (t := 156) (q := 152) rfl rfl rfl (fun c_1 => ?_) (fun c_1 => ?_)
    · have h := hA c_1
      clear hA hB
      refine ar_lconst (v := 0) (q := 157) rfl rfl rfl ?_
      exact ar_lret rfl rfl h
    · have h := hB c_1
      clear hA hB
      refine ar_lconst (v := 1) (q := 153) rfl rfl rfl ?_
      refine ar_goto (t := 157) rfl rfl ?_
      exact ar_lret rfl rfl h
  · rcases (show (g : Int32).toInt = 42 ∨ (g : Int32).toInt = 43 ∨ (g : Int32).toInt = 44 ∨ (g : Int32).toInt = 45 ∨ (g : Int32).toInt = 46 ∨ (g : Int32).toInt = 47 ∨ (g : Int32).toInt = 48 ∨ (g : Int32).toInt = 49 ∨ (g : Int32).toInt = 50 ∨ (g : Int32).toInt = 51 ∨ (g : Int32).toInt = 52 ∨ (g : Int32).toInt = 53 ∨ (g : Int32).toInt = 54 ∨ (g : Int32).toInt = 55 ∨ (g : Int32).toInt = 56 ∨ (g : Int32).toInt = 57 ∨ (g : Int32).toInt = 58 ∨ (g : Int32).toInt = 59 ∨ (g : Int32).toInt = 60 ∨ (g : Int32).toInt = 61 by omega) with e9 | e9 | e9 | e9 | e9 | e9 | e9 | e9 | e9 | e9 | e9 | e9 | e9 | e9 | e9 | e9 | e9 | e9 | e9 | e9
    · refine ⟨103, 104, by rw [e9]; rfl, rfl, ?_⟩
      have h := hT0 e9
      clear hT0 hT1 hT3 hT5 hT18 hT19 hD
      refine ar_lload_n (j := 1) (q := 105) rfl rfl rfl rfl ?_
      refine ar_lload_n (j := 3) (q := 106) rfl rfl rfl rfl ?_
      refine ar_lb (i := .lmul) (z := a * b) (q := 107) rfl rfl rfl rfl rfl rfl ?_
      exact ar_lret rfl rfl h
    · refine ⟨95, 96, by rw [e9]; rfl, rfl, ?_⟩
      have h := hT1 e9
      clear hT0 hT1 hT3 hT5 hT18 hT19 hD
      refine ar_lload_n (j := 1) (q := 97) rfl rfl rfl rfl ?_
      refine ar_lload_n (j := 3) (q := 98) rfl rfl rfl rfl ?_
      refine ar_lb (i := .ladd) (z := a + b) (q := 99) rfl rfl rfl rfl rfl rfl ?_
      exact ar_lret rfl rfl h
    · refine ⟨145, 146, by rw [e9]; rfl, rfl, ?_⟩
      have h := hD (by omega)
      clear hT0 hT1 hT3 hT5 hT18 hT19 hD
      refine ar_lload_n (j := 1) (q := 147) rfl rfl rfl rfl ?_
      refine ar_lload_n (j := 3) (q := 148) rfl rfl rfl rfl ?_
      refine ar_st (i := .lcmp) (n := 1) (st' := [.int (lg_cmp a b)]) (q := 149) rfl rfl rfl rfl ?_
      obtain ⟨hA, hB⟩ := h
      refine ar_b0 am_c_le (t := 156) (q := 152) rfl rfl rfl (fun c_1 => ?_) (fun c_1 => ?_)
      · have h := hA c_1
        clear hA hB
        refine ar_lconst (v := 0) (q := 157) rfl rfl rfl ?_
        exact ar_lret rfl rfl h
      · have h := hB c_1
        clear hA hB
        refine ar_lconst (v := 1) (q := 153) rfl rfl rfl ?_
        refine ar_goto (t := 157) rfl rfl ?_
        exact ar_lret rfl rfl h
    · refine ⟨99, 100, by rw [e9]; rfl, rfl, ?_⟩
      have h := hT3 e9
      clear hT0 hT1 hT3 hT5 hT18 hT19 hD
      refine ar_lload_n (j := 1) (q := 101) rfl rfl rfl rfl ?_
      refine ar_lload_n (j := 3) (q := 102) rfl rfl rfl rfl ?_
      refine ar_lb (i := .lsub) (z := a - b) (q := 103) rfl rfl rfl rfl rfl rfl ?_
      exact ar_lret rfl rfl h
    · refine ⟨145, 146, by rw [e9]; rfl, rfl, ?_⟩
      have h := hD (by omega)
      clear hT0 hT1 hT3 hT5 hT18 hT19 hD
      refine ar_lload_n (j := 1) (q := 147) rfl rfl rfl rfl ?_
      refine ar_lload_n (j := 3) (q := 148) rfl rfl rfl rfl ?_
      refine ar_st (i := .lcmp) (n := 1) (st' := [.int (lg_cmp a b)]) (q := 149) rfl rfl rfl rfl ?_
      obtain ⟨hA, hB⟩ := h
      refine ar_b0 am_c_le (t := 156) (q := 152) rfl rfl rfl (fun c_1 => ?_) (fun c_1 => ?_)
      · have h := hA c_1
        clear hA hB
        refine ar_lconst (v := 0) (q := 157) rfl rfl rfl ?_
        exact ar_lret rfl rfl h
      · have h := hB c_1
        clear hA hB
        refine ar_lconst (v := 1) (q := 153) rfl rfl rfl ?_
        refine ar_goto (t := 157) rfl rfl ?_
        exact ar_lret rfl rfl h
    · refine ⟨107, 108, by rw [e9]; rfl, rfl, ?_⟩
      have h := hT5 e9
      clear hT0 hT1 hT3 hT5 hT18 hT19 hD
      refine ar_lload_n (j := 3) (q := 109) rfl rfl rfl rfl ?_
      refine ar_lconst (v := 0) (q := 110) rfl rfl rfl ?_
      refine ar_st (i := .lcmp) (n := 1) (st' := [.int (lg_cmp b (0 : Int64))]) (q := 111) rfl rfl rfl rfl ?_
      obtain ⟨hA, hB⟩ := h
      refine ar_b0 am_c_ne (t := 118) (q := 114) rfl rfl rfl (fun c_3 => ?_) (fun c_3 => ?_)
      · have h := hB c_3
        clear hA hB
        refine ar_lload_n (j := 1) (q := 119) rfl rfl rfl rfl ?_
        refine ar_lload_n (j := 3) (q := 120) rfl rfl rfl rfl ?_
        obtain ⟨hz_4, h⟩ := h
        refine ar_ldiv (q := 121) rfl hz_4 rfl ?_
        exact ar_lret rfl rfl h
      · have c_3 := Classical.not_not.mp c_3
        have h := hA c_3
        clear hA hB
        refine ar_lconst (v := 0) (q := 115) rfl rfl rfl ?_
        refine ar_goto (t := 121) rfl rfl ?_
        exact ar_lret rfl rfl h
    · refine ⟨145, 146, by rw [e9]; rfl, rfl, ?_⟩
      have h := hD (by omega)
      clear hT0 hT1 hT3 hT5 hT18 hT19 hD
      refine ar_lload_n (j := 1) (q := 147) rfl rfl rfl rfl ?_
      refine ar_lload_n (j := 3) (q := 148) rfl rfl rfl rfl ?_
      refine ar_st (i := .lcmp) (n := 1) (st' := [.int (lg_cmp a b)]) (q := 149) rfl rfl rfl rfl ?_
      obtain ⟨hA, hB⟩ := h
      refine ar_b0 am_c_le (t := 156) (q := 152) rfl rfl rfl (fun c_1 => ?_) (fun c_1 => ?_)
      · have h := hA c_1
        clear hA hB
        refine ar_lconst (v := 0) (q := 157) rfl rfl rfl ?_
        exact ar_lret rfl rfl h
      · have h := hB c_1
        clear hA hB
        refine ar_lconst (v := 1) (q := 153) rfl rfl rfl ?_
        refine ar_goto (t := 157) rfl rfl ?_
        exact ar_lret rfl rfl h
    · refine ⟨145, 146, by rw [e9]; rfl, rfl, ?_⟩
      have h := hD (by omega)
      clear hT0 hT1 hT3 hT5 hT18 hT19 hD
      refine ar_lload_n (j := 1) (q := 147) rfl rfl rfl rfl ?_
      refine ar_lload_n (j := 3) (q := 148) rfl rfl rfl rfl ?_
      refine ar_st (i := .lcmp) (n := 1) (st' := [.int (lg_cmp a b)]) (q := 149) rfl rfl rfl rfl ?_
      obtain ⟨hA, hB⟩ := h
      refine ar_b0 am_c_le (t := 156) (q := 152) rfl rfl rfl (fun c_1 => ?_) (fun c_1 => ?_)
      · have h := hA c_1
        clear hA hB
        refine ar_lconst (v := 0) (q := 157) rfl rfl rfl ?_
        exact ar_lret rfl rfl h
      · have h := hB c_1
        clear hA hB
        refine ar_lconst (v := 1) (q := 153) rfl rfl rfl ?_
        refine ar_goto (t := 157) rfl rfl ?_
        exact ar_lret rfl rfl h
    · refine ⟨145, 146, by rw [e9]; rfl, rfl, ?_⟩
      have h := hD (by omega)
      clear hT0 hT1 hT3 hT5 hT18 hT19 hD
      refine ar_lload_n (j := 1) (q := 147) rfl rfl rfl rfl ?_
      refine ar_lload_n (j := 3) (q := 148) rfl rfl rfl rfl ?_
      refine ar_st (i := .lcmp) (n := 1) (st' := [.int (lg_cmp a b)]) (q := 149) rfl rfl rfl rfl ?_
      obtain ⟨hA, hB⟩ := h
      refine ar_b0 am_c_le (t := 156) (q := 152) rfl rfl rfl (fun c_1 => ?_) (fun c_1 => ?_)
      · have h := hA c_1
        clear hA hB
        refine ar_lconst (v := 0) (q := 157) rfl rfl rfl ?_
        exact ar_lret rfl rfl h
      · have h := hB c_1
        clear hA hB
        refine ar_lconst (v := 1) (q := 153) rfl rfl rfl ?_
        refine ar_goto (t := 157) rfl rfl ?_
        exact ar_lret rfl rfl h
    · refine ⟨145, 146, by rw [e9]; rfl, rfl, ?_⟩
      have h := hD (by omega)
      clear hT0 hT1 hT3 hT5 hT18 hT19 hD
      refine ar_lload_n (j := 1) (q := 147) rfl rfl rfl rfl ?_
      refine ar_lload_n (j := 3) (q := 148) rfl rfl rfl rfl ?_
      refine ar_st (i := .lcmp) (n := 1) (st' := [.int (lg_cmp a b)]) (q := 149) rfl rfl rfl rfl ?_
      obtain ⟨hA, hB⟩ := h
      refine ar_b0 am_c_le (t := 156) (q := 152) rfl rfl rfl (fun c_1 => ?_) (fun c_1 => ?_)
      · have h := hA c_1
        clear hA hB
        refine ar_lconst (v := 0) (q := 157) rfl rfl rfl ?_
        exact ar_lret rfl rfl h
      · have h := hB c_1
        clear hA hB
        refine ar_lconst (v := 1) (q := 153) rfl rfl rfl ?_
        refine ar_goto (t := 157) rfl rfl ?_
        exact ar_lret rfl rfl h
    · refine ⟨145, 146, by rw [e9]; rfl, rfl, ?_⟩
      have h := hD (by omega)
      clear hT0 hT1 hT3 hT5 hT18 hT19 hD
      refine ar_lload_n (j := 1) (q := 147) rfl rfl rfl rfl ?_
      refine ar_lload_n (j := 3) (q := 148) rfl rfl rfl rfl ?_
      refine ar_st (i := .lcmp) (n := 1) (st' := [.int (lg_cmp a b)]) (q := 149) rfl rfl rfl rfl ?_
      obtain ⟨hA, hB⟩ := h
      refine ar_b0 am_c_le (t := 156) (q := 152) rfl rfl rfl (fun c_1 => ?_) (fun c_1 => ?_)
      · have h := hA c_1
        clear hA hB
        refine ar_lconst (v := 0) (q := 157) rfl rfl rfl ?_
        exact ar_lret rfl rfl h
      · have h := hB c_1
        clear hA hB
        refine ar_lconst (v := 1) (q := 153) rfl rfl rfl ?_
        refine ar_goto (t := 157) rfl rfl ?_
        exact ar_lret rfl rfl h
    · refine ⟨145, 146, by rw [e9]; rfl, rfl, ?_⟩
      have h := hD (by omega)
      clear hT0 hT1 hT3 hT5 hT18 hT19 hD
      refine ar_lload_n (j := 1) (q := 147) rfl rfl rfl rfl ?_
      refine ar_lload_n (j := 3) (q := 148) rfl rfl rfl rfl ?_
      refine ar_st (i := .lcmp) (n := 1) (st' := [.int (lg_cmp a b)]) (q := 149) rfl rfl rfl rfl ?_
      obtain ⟨hA, hB⟩ := h
      refine ar_b0 am_c_le (t := 156) (q := 152) rfl rfl rfl (fun c_1 => ?_) (fun c_1 => ?_)
      · have h := hA c_1
        clear hA hB
        refine ar_lconst (v := 0) (q := 157) rfl rfl rfl ?_
        exact ar_lret rfl rfl h
      · have h := hB c_1
        clear hA hB
        refine ar_lconst (v := 1) (q := 153) rfl rfl rfl ?_
        refine ar_goto (t := 157) rfl rfl ?_
        exact ar_lret rfl rfl h
    · refine ⟨145, 146, by rw [e9]; rfl, rfl, ?_⟩
      have h := hD (by omega)
      clear hT0 hT1 hT3 hT5 hT18 hT19 hD
      refine ar_lload_n (j := 1) (q := 147) rfl rfl rfl rfl ?_
      refine ar_lload_n (j := 3) (q := 148) rfl rfl rfl rfl ?_
      refine ar_st (i := .lcmp) (n := 1) (st' := [.int (lg_cmp a b)]) (q := 149) rfl rfl rfl rfl ?_
      obtain ⟨hA, hB⟩ := h
      refine ar_b0 am_c_le (t := 156) (q := 152) rfl rfl rfl (fun c_1 => ?_) (fun c_1 => ?_)
      · have h := hA c_1
        clear hA hB
        refine ar_lconst (v := 0) (q := 157) rfl rfl rfl ?_
        exact ar_lret rfl rfl h
      · have h := hB c_1
        clear hA hB
        refine ar_lconst (v := 1) (q := 153) rfl rfl rfl ?_
        refine ar_goto (t := 157) rfl rfl ?_
        exact ar_lret rfl rfl h
    · refine ⟨145, 146, by rw [e9]; rfl, rfl, ?_⟩
      have h := hD (by omega)
      clear hT0 hT1 hT3 hT5 hT18 hT19 hD
      refine ar_lload_n (j := 1) (q := 147) rfl rfl rfl rfl ?_
      refine ar_lload_n (j := 3) (q := 148) rfl rfl rfl rfl ?_
      refine ar_st (i := .lcmp) (n := 1) (st' := [.int (lg_cmp a b)]) (q := 149) rfl rfl rfl rfl ?_
      obtain ⟨hA, hB⟩ := h
      refine ar_b0 am_c_le (t := 156) (q := 152) rfl rfl rfl (fun c_1 => ?_) (fun c_1 => ?_)
      · have h := hA c_1
        clear hA hB
        refine ar_lconst (v := 0) (q := 157) rfl rfl rfl ?_
        exact ar_lret rfl rfl h
      · have h := hB c_1
        clear hA hB
        refine ar_lconst (v := 1) (q := 153) rfl rfl rfl ?_
        refine ar_goto (t := 157) rfl rfl ?_
        exact ar_lret rfl rfl h
    · refine ⟨145, 146, by rw [e9]; rfl, rfl, ?_⟩
      have h := hD (by omega)
      clear hT0 hT1 hT3 hT5 hT18 hT19 hD
      refine ar_lload_n (j := 1) (q := 147) rfl rfl rfl rfl ?_
      refine ar_lload_n (j := 3) (q := 148) rfl rfl rfl rfl ?_
      refine ar_st (i := .lcmp) (n := 1) (st' := [.int (lg_cmp a b)]) (q := 149) rfl rfl rfl rfl ?_
      obtain ⟨hA, hB⟩ := h
      refine ar_b0 am_c_le (t := 156) (q := 152) rfl rfl rfl (fun c_1 => ?_) (fun c_1 => ?_)
      · have h := hA c_1
        clear hA hB
        refine ar_lconst (v := 0) (q := 157) rfl rfl rfl ?_
        exact ar_lret rfl rfl h
      · have h := hB c_1
        clear hA hB
        refine ar_lconst (v := 1) (q := 153) rfl rfl rfl ?_
        refine ar_goto (t := 157) rfl rfl ?_
        exact ar_lret rfl rfl h
    · refine ⟨145, 146, by rw [e9]; rfl, rfl, ?_⟩
      have h := hD (by omega)
      clear hT0 hT1 hT3 hT5 hT18 hT19 hD
      refine ar_lload_n (j := 1) (q := 147) rfl rfl rfl rfl ?_
      refine ar_lload_n (j := 3) (q := 148) rfl rfl rfl rfl ?_
      refine ar_st (i := .lcmp) (n := 1) (st' := [.int (lg_cmp a b)]) (q := 149) rfl rfl rfl rfl ?_
      obtain ⟨hA, hB⟩ := h
      refine ar_b0 am_c_le (t := 156) (q := 152) rfl rfl rfl (fun c_1 => ?_) (fun c_1 => ?_)
      · have h := hA c_1
        clear hA hB
        refine ar_lconst (v := 0) (q := 157) rfl rfl rfl ?_
        exact ar_lret rfl rfl h
      · have h := hB c_1
        clear hA hB
        refine ar_lconst (v := 1) (q := 153) rfl rfl rfl ?_
        refine ar_goto (t := 157) rfl rfl ?_
        exact ar_lret rfl rfl h
    · refine ⟨145, 146, by rw [e9]; rfl, rfl, ?_⟩
      have h := hD (by omega)
      clear hT0 hT1 hT3 hT5 hT18 hT19 hD
      refine ar_lload_n (j := 1) (q := 147) rfl rfl rfl rfl ?_
      refine ar_lload_n (j := 3) (q := 148) rfl rfl rfl rfl ?_
      refine ar_st (i := .lcmp) (n := 1) (st' := [.int (lg_cmp a b)]) (q := 149) rfl rfl rfl rfl ?_
      obtain ⟨hA, hB⟩ := h
      refine ar_b0 am_c_le (t := 156) (q := 152) rfl rfl rfl (fun c_1 => ?_) (fun c_1 => ?_)
      · have h := hA c_1
        clear hA hB
        refine ar_lconst (v := 0) (q := 157) rfl rfl rfl ?_
        exact ar_lret rfl rfl h
      · have h := hB c_1
        clear hA hB
        refine ar_lconst (v := 1) (q := 153) rfl rfl rfl ?_
        refine ar_goto (t := 157) rfl rfl ?_
        exact ar_lret rfl rfl h
    · refine ⟨145, 146, by rw [e9]; rfl, rfl, ?_⟩
      have h := hD (by omega)
      clear hT0 hT1 hT3 hT5 hT18 hT19 hD
      refine ar_lload_n (j := 1) (q := 147) rfl rfl rfl rfl ?_
      refine ar_lload_n (j := 3) (q := 148) rfl rfl rfl rfl ?_
      refine ar_st (i := .lcmp) (n := 1) (st' := [.int (lg_cmp a b)]) (q := 149) rfl rfl rfl rfl ?_
      obtain ⟨hA, hB⟩ := h
      refine ar_b0 am_c_le (t := 156) (q := 152) rfl rfl rfl (fun c_1 => ?_) (fun c_1 => ?_)
      · have h := hA c_1
        clear hA hB
        refine ar_lconst (v := 0) (q := 157) rfl rfl rfl ?_
        exact ar_lret rfl rfl h
      · have h := hB c_1
        clear hA hB
        refine ar_lconst (v := 1) (q := 153) rfl rfl rfl ?_
        refine ar_goto (t := 157) rfl rfl ?_
        exact ar_lret rfl rfl h
    · refine ⟨121, 122, by rw [e9]; rfl, rfl, ?_⟩
      have h := hT18 e9
      clear hT0 hT1 hT3 hT5 hT18 hT19 hD
      refine ar_lload_n (j := 1) (q := 123) rfl rfl rfl rfl ?_
      refine ar_lload_n (j := 3) (q := 124) rfl rfl rfl rfl ?_
      refine ar_st (i := .lcmp) (n := 1) (st' := [.int (lg_cmp a b)]) (q := 125) rfl rfl rfl rfl ?_
      obtain ⟨hA, hB⟩ := h
      refine ar_b0 am_d_ge (t := 132) (q := 128) rfl rfl rfl (fun c_5 => ?_) (fun c_5 => ?_)
      · have h := hB c_5
        clear hA hB
        refine ar_lconst (v := 0) (q := 133) rfl rfl rfl ?_
        exact ar_lret rfl rfl h
      · have c_5 := Classical.not_not.mp c_5
        have h := hA c_5
        clear hA hB
        refine ar_lconst (v := 1) (q := 129) rfl rfl rfl ?_
        refine ar_goto (t := 133) rfl rfl ?_
        exact ar_lret rfl rfl h
    · refine ⟨133, 134, by rw [e9]; rfl, rfl, ?_⟩
      have h := hT19 e9
      clear hT0 hT1 hT3 hT5 hT18 hT19 hD
      refine ar_lload_n (j := 1) (q := 135) rfl rfl rfl rfl ?_
      refine ar_lload_n (j := 3) (q := 136) rfl rfl rfl rfl ?_
      refine ar_st (i := .lcmp) (n := 1) (st' := [.int (lg_cmp a b)]) (q := 137) rfl rfl rfl rfl ?_
      obtain ⟨hA, hB⟩ := h
      refine ar_b0 am_c_ne (t := 144) (q := 140) rfl rfl rfl (fun c_6 => ?_) (fun c_6 => ?_)
      · have h := hB c_6
        clear hA hB
        refine ar_lconst (v := 0) (q := 145) rfl rfl rfl ?_
        exact ar_lret rfl rfl h
      · have c_6 := Classical.not_not.mp c_6
        have h := hA c_6
        clear hA hB
        refine ar_lconst (v := 1) (q := 141) rfl rfl rfl ?_
        refine ar_goto (t := 145) rfl rfl ?_
        exact ar_lret rfl rfl h
theorem r_Rules_worthOfTerm_0 {d : Nat} {R : am_R} {I : Nat → Nat → Int32} {L : Nat → Nat → Int64} {k : Nat} {s : Nat} (h : s < 60 ∧ (am_meth d 126 [.ref 85, .int (I 67 s), .int (I 66 0)] (am_mk I L, 0, 0) (am_ri (fun z_2 I_3 L_4 => ((z_2 = (-9 : Int32) → (R (some (.int 1)) (am_mk I_3 L_4, 0, 0))) ∧ (¬ z_2 = (-9 : Int32) → (am_meth d 108 [.ref 99, .int (nI k), .int (nI s)] (am_mk I_3 L_4, 0, 0) (am_rv (fun I_6 L_7 => am_meth d 128 [.ref 85, .int z_2, .ref 100] (am_mk I_6 L_7, 0, 0) (am_ri (fun z_8 I_9 L_10 => R (some (.int z_8)) (am_mk I_9 L_10, 0, 0)))))))))))) : am_Run am_X0 (am_meth d) 107 R 0 [some (.ref 99), some (.int (nI k)), some (.int (nI s)), none] [] (am_mk I L, 0, 0) := by
  refine ar_aload_n (j := 0) (q := 1) rfl rfl rfl rfl ?_
  refine ar_getf (v := .ref 85) (q := 4) rfl rfl mk_99 rfl rfl ?_
  refine ar_aload_n (j := 0) (q := 5) rfl rfl rfl rfl ?_
  refine ar_getf (v := .ref 66) (q := 8) rfl rfl mk_99 rfl rfl ?_
  refine ar_getf (v := .ref 67) (q := 11) rfl rfl mk_66 rfl rfl ?_
  refine ar_iload_n (j := 2) (q := 12) rfl rfl rfl rfl ?_
  obtain ⟨hx_1, h⟩ := h
  refine ar_iald (v := I 67 s) (q := 13) rfl mk_67 (am_inE rfl hx_1 (by decide)) (am_clE rfl hx_1 (by decide)) rfl ?_
  refine ar_aload_n (j := 0) (q := 14) rfl rfl rfl rfl ?_
  refine ar_getf (v := .ref 66) (q := 17) rfl rfl mk_99 rfl rfl ?_
  refine ar_getf (v := .int (I 66 0)) (q := 20) rfl rfl mk_66 rfl rfl ?_
  refine ar_invv (as := [.int (I 67 s), .int (I 66 0)]) (rest := []) (b2 := (0, 0)) (b3 := (0, 0)) (q := 23) rfl rfl rfl rfl mk_85 rfl rfl rfl rfl rfl ?_
  refine am_meth_mono d _ _ _ _ _ (fun v9 m9 h9 => ?_) h
  obtain ⟨z_2, I_3, L_4, rfl, rfl, h⟩ := h9
  show am_Run am_X0 (am_meth d) 107 R 23 [some (.ref 99), some (.int (nI k)), some (.int (nI s)), none] [.int z_2] (am_mk I_3 L_4, 0, 0)
  refine ar_istore_n (j := 3) (ls' := [some (.ref 99), some (.int (nI k)), some (.int (nI s)), some (.int z_2)]) (q := 24) rfl rfl rfl rfl rfl ?_
  refine ar_iload_n (j := 3) (q := 25) rfl rfl rfl rfl ?_
  refine ar_bipush (v := (-9 : Int32)) (q := 27) rfl rfl rfl ?_
  obtain ⟨hA, hB⟩ := h
  refine ar_br am_c_ne (t := 32) (q := 30) rfl rfl rfl (fun c_5 => ?_) (fun c_5 => ?_)
  · have h := hB c_5
    clear hA hB
    refine ar_aload_n (j := 0) (q := 33) rfl rfl rfl rfl ?_
    refine ar_iload_n (j := 1) (q := 34) rfl rfl rfl rfl ?_
    refine ar_iload_n (j := 2) (q := 35) rfl rfl rfl rfl ?_
    refine ar_invv (as := [.int (nI k), .int (nI s)]) (rest := []) (b2 := (0, 0)) (b3 := (0, 0)) (q := 38) rfl rfl rfl rfl mk_99 rfl rfl rfl rfl rfl ?_
    refine am_meth_mono d _ _ _ _ _ (fun v9 m9 h9 => ?_) h
    obtain ⟨I_6, L_7, rfl, rfl, h⟩ := h9
    show am_Run am_X0 (am_meth d) 107 R 38 [some (.ref 99), some (.int (nI k)), some (.int (nI s)), some (.int z_2)] [] (am_mk I_6 L_7, 0, 0)
    refine ar_aload_n (j := 0) (q := 39) rfl rfl rfl rfl ?_
    refine ar_getf (v := .ref 85) (q := 42) rfl rfl mk_99 rfl rfl ?_
    refine ar_iload_n (j := 3) (q := 43) rfl rfl rfl rfl ?_
    refine ar_aload_n (j := 0) (q := 44) rfl rfl rfl rfl ?_
    refine ar_getf (v := .ref 100) (q := 47) rfl rfl mk_99 rfl rfl ?_
    refine ar_invv (as := [.int z_2, .ref 100]) (rest := []) (b2 := (0, 0)) (b3 := (0, 0)) (q := 50) rfl rfl rfl rfl mk_85 rfl rfl rfl rfl rfl ?_
    refine am_meth_mono d _ _ _ _ _ (fun v9 m9 h9 => ?_) h
    obtain ⟨z_8, I_9, L_10, rfl, rfl, h⟩ := h9
    show am_Run am_X0 (am_meth d) 107 R 50 [some (.ref 99), some (.int (nI k)), some (.int (nI s)), some (.int z_2)] [.int z_8] (am_mk I_9 L_10, 0, 0)
    exact ar_iret rfl rfl h
  · have c_5 := Classical.not_not.mp c_5
    have h := hA c_5
    clear hA hB
    refine ar_iconst (v := 1) (q := 31) rfl rfl rfl ?_
    exact ar_iret rfl rfl h
theorem r_M_worthOf_0 {d : Nat} {R : am_R} {I : Nat → Nat → Int32} {L : Nat → Nat → Int64} {k : Nat} {s : Nat} (h : s < 60 ∧ (am_meth d 173 [.ref 113, .int (I 125 s)] (am_mk I L, 0, 0) (am_ri (fun z_2 I_3 L_4 => ((z_2 < 0 → (am_meth d 173 [.ref 113, .int (-1 : Int32)] (am_mk I_3 L_4, 0, 0) (am_ri (fun z_6 I_7 L_8 => ((z_6 < 0 → (R (some (.int 1)) (am_mk I_7 L_8, 0, 0))) ∧ (¬ z_6 < 0 → (am_meth d 174 [.ref 113, .int z_6, .int (nI k), .int (nI s)] (am_mk I_7 L_8, 0, 0) (am_rl (fun z_10 I_11 L_12 => R (some (.int ((z_10 : Int64).toInt32))) (am_mk I_11 L_12, 0, 0)))))))))) ∧ (¬ z_2 < 0 → (am_meth d 174 [.ref 113, .int z_2, .int (nI k), .int (nI s)] (am_mk I_3 L_4, 0, 0) (am_rl (fun z_13 I_14 L_15 => R (some (.int ((z_13 : Int64).toInt32))) (am_mk I_14 L_15, 0, 0)))))))))) : am_Run am_X0 (am_meth d) 172 R 0 [some (.ref 113), some (.int (nI k)), some (.int (nI s)), none] [] (am_mk I L, 0, 0) := by
  refine ar_aload_n (j := 0) (q := 1) rfl rfl rfl rfl ?_
  refine ar_aload_n (j := 0) (q := 2) rfl rfl rfl rfl ?_
  refine ar_getf (v := .ref 125) (q := 5) rfl rfl mk_113 rfl rfl ?_
  refine ar_iload_n (j := 2) (q := 6) rfl rfl rfl rfl ?_
  obtain ⟨hx_1, h⟩ := h
  refine ar_iald (v := I 125 s) (q := 7) rfl mk_125 (am_inE rfl hx_1 (by decide)) (am_clE rfl hx_1 (by decide)) rfl ?_
  refine ar_invv (as := [.int (I 125 s)]) (rest := []) (b2 := (0, 0)) (b3 := (0, 0)) (q := 10) rfl rfl rfl rfl mk_113 rfl rfl rfl rfl rfl ?_
  refine am_meth_mono d _ _ _ _ _ (fun v9 m9 h9 => ?_) h
  obtain ⟨z_2, I_3, L_4, rfl, rfl, h⟩ := h9
  show am_Run am_X0 (am_meth d) 172 R 10 [some (.ref 113), some (.int (nI k)), some (.int (nI s)), none] [.int z_2] (am_mk I_3 L_4, 0, 0)
  refine ar_istore_n (j := 3) (ls' := [some (.ref 113), some (.int (nI k)), some (.int (nI s)), some (.int z_2)]) (q := 11) rfl rfl rfl rfl rfl ?_
  refine ar_iload_n (j := 3) (q := 12) rfl rfl rfl rfl ?_
  obtain ⟨hA, hB⟩ := h
  refine ar_b0 am_d_ge (t := 21) (q := 15) rfl rfl rfl (fun c_5 => ?_) (fun c_5 => ?_)
  · have h := hB c_5
    clear hA hB
    refine ar_iload_n (j := 3) (q := 22) rfl rfl rfl rfl ?_
    refine ar_b0 am_d_ge (t := 29) (q := 25) rfl rfl rfl (fun _ => ?_) (fun c9 => absurd c_5 c9)
    refine ar_aload_n (j := 0) (q := 30) rfl rfl rfl rfl ?_
    refine ar_iload_n (j := 3) (q := 31) rfl rfl rfl rfl ?_
    refine ar_iload_n (j := 1) (q := 32) rfl rfl rfl rfl ?_
    refine ar_iload_n (j := 2) (q := 33) rfl rfl rfl rfl ?_
    refine ar_invv (as := [.int z_2, .int (nI k), .int (nI s)]) (rest := []) (b2 := (0, 0)) (b3 := (0, 0)) (q := 36) rfl rfl rfl rfl mk_113 rfl rfl rfl rfl rfl ?_
    refine am_meth_mono d _ _ _ _ _ (fun v9 m9 h9 => ?_) h
    obtain ⟨z_13, I_14, L_15, rfl, rfl, h⟩ := h9
    show am_Run am_X0 (am_meth d) 172 R 36 [some (.ref 113), some (.int (nI k)), some (.int (nI s)), some (.int z_2)] [.long z_13] (am_mk I_14 L_15, 0, 0)
    refine ar_st (i := .l2i) (n := 1) (st' := [.int ((z_13 : Int64).toInt32)]) (q := 37) rfl rfl rfl rfl ?_
    exact ar_iret rfl rfl h
  · have c_5 := Classical.not_not.mp c_5
    have h := hA c_5
    clear hA hB
    refine ar_aload_n (j := 0) (q := 16) rfl rfl rfl rfl ?_
    refine ar_iconst (v := (-1 : Int32)) (q := 17) rfl rfl rfl ?_
    refine ar_invv (as := [.int (-1 : Int32)]) (rest := []) (b2 := (0, 0)) (b3 := (0, 0)) (q := 20) rfl rfl rfl rfl mk_113 rfl rfl rfl rfl rfl ?_
    refine am_meth_mono d _ _ _ _ _ (fun v9 m9 h9 => ?_) h
    obtain ⟨z_6, I_7, L_8, rfl, rfl, h⟩ := h9
    show am_Run am_X0 (am_meth d) 172 R 20 [some (.ref 113), some (.int (nI k)), some (.int (nI s)), some (.int z_2)] [.int z_6] (am_mk I_7 L_8, 0, 0)
    refine ar_istore_n (j := 3) (ls' := [some (.ref 113), some (.int (nI k)), some (.int (nI s)), some (.int z_6)]) (q := 21) rfl rfl rfl rfl rfl ?_
    refine ar_iload_n (j := 3) (q := 22) rfl rfl rfl rfl ?_
    obtain ⟨hA, hB⟩ := h
    refine ar_b0 am_d_ge (t := 29) (q := 25) rfl rfl rfl (fun c_9 => ?_) (fun c_9 => ?_)
    · have h := hB c_9
      clear hA hB
      refine ar_aload_n (j := 0) (q := 30) rfl rfl rfl rfl ?_
      refine ar_iload_n (j := 3) (q := 31) rfl rfl rfl rfl ?_
      refine ar_iload_n (j := 1) (q := 32) rfl rfl rfl rfl ?_
      refine ar_iload_n (j := 2) (q := 33) rfl rfl rfl rfl ?_
      refine ar_invv (as := [.int z_6, .int (nI k), .int (nI s)]) (rest := []) (b2 := (0, 0)) (b3 := (0, 0)) (q := 36) rfl rfl rfl rfl mk_113 rfl rfl rfl rfl rfl ?_
      refine am_meth_mono d _ _ _ _ _ (fun v9 m9 h9 => ?_) h
      obtain ⟨z_10, I_11, L_12, rfl, rfl, h⟩ := h9
      show am_Run am_X0 (am_meth d) 172 R 36 [some (.ref 113), some (.int (nI k)), some (.int (nI s)), some (.int z_6)] [.long z_10] (am_mk I_11 L_12, 0, 0)
      refine ar_st (i := .l2i) (n := 1) (st' := [.int ((z_10 : Int64).toInt32)]) (q := 37) rfl rfl rfl rfl ?_
      exact ar_iret rfl rfl h
    · have c_9 := Classical.not_not.mp c_9
      have h := hA c_9
      clear hA hB
      refine ar_iconst (v := 1) (q := 26) rfl rfl rfl ?_
      refine ar_goto (t := 37) rfl rfl ?_
      exact ar_iret rfl rfl h
