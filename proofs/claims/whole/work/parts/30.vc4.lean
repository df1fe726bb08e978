theorem r_Stays_isHouseKept_0 {d : Nat} {R : am_R} {I : Nat → Nat → Int32} {L : Nat → Nat → Int64} {ho : Int32} {a : Int32} {b : Int32} (h : am_Run am_X0 (am_meth d) 115 R 3 [some (.ref 66), some (.int ho), some (.int a), some (.int b), some (.int 0), none] [] (am_mk I L, 0, 0)) : am_Run am_X0 (am_meth d) 115 R 0 [some (.ref 66), some (.int ho), some (.int a), some (.int b), none, none] [] (am_mk I L, 0, 0) := by
  refine ar_iconst (v := 0) (q := 1) rfl rfl rfl ?_
  refine ar_istore (ls' := [some (.ref 66), some (.int ho), some (.int a), some (.int b), some (.int 0), none]) (q := 3) rfl rfl rfl rfl ?_
  exact am_Run.weak (ls' := _) (by exact ⟨rfl, ⟨rfl, ⟨rfl, ⟨rfl, ⟨rfl, trivial⟩⟩⟩⟩⟩) h
theorem r_Stays_isHouseKept_3 {d : Nat} (hd : 2 ≤ d) {R : am_R} {I : Nat → Nat → Int32} {L : Nat → Nat → Int64} {ho : Int32} {a : Int32} {b : Int32} {s : Nat} (h : (((nI s) < (I 66 1) → (s < 60 ∧ ((((I 67 s) = ho → ((((I 70 s) = 2 → (am_Run am_X0 (am_meth d) 115 R 3 [some (.ref 66), some (.int ho), some (.int a), some (.int b), some (.int (nI (s + 1))), none] [] (am_mk I L, 0, 0))) ∧ (¬ (I 70 s) = 2 → ((s < 60) ∧ ((((am_dw (I 68 s) (I 69 s) a b) ≤ 0 → (am_Run am_X0 (am_meth d) 115 R 3 [some (.ref 66), some (.int ho), some (.int a), some (.int b), some (.int (nI (s + 1))), none] [] (am_mk I L, 0, 0))) ∧ (¬ (am_dw (I 68 s) (I 69 s) a b) ≤ 0 → (R (some (.int 1)) (am_mk I L, 0, 0)))))))))) ∧ (¬ (I 67 s) = ho → (am_Run am_X0 (am_meth d) 115 R 3 [some (.ref 66), some (.int ho), some (.int a), some (.int b), some (.int (nI (s + 1))), none] [] (am_mk I L, 0, 0))))))) ∧ (¬ (nI s) < (I 66 1) → (R (some (.int 0)) (am_mk I L, 0, 0))))) : am_Run am_X0 (am_meth d) 115 R 3 [some (.ref 66), some (.int ho), some (.int a), some (.int b), some (.int (nI s)), none] [] (am_mk I L, 0, 0) := by
  refine ar_iload (q := 5) rfl rfl rfl ?_
  refine ar_aload_n (j := 0) (q := 6) rfl rfl rfl rfl ?_
  refine ar_getf (v := .int (I 66 1)) (q := 9) rfl rfl mk_66 rfl rfl ?_
  obtain ⟨hA, hB⟩ := h
  refine ar_br am_d_ge (t := 65) (q := 12) rfl rfl rfl (fun c_1 => ?_) (fun c_1 => ?_)
  · have h := hB c_1
    clear hA hB
    refine ar_iconst (v := 0) (q := 66) rfl rfl rfl ?_
    exact ar_zret rfl rfl (Or.inl rfl) h
  · have c_1 := Classical.not_not.mp c_1
    have h := hA c_1
    clear hA hB
    refine ar_aload_n (j := 0) (q := 13) rfl rfl rfl rfl ?_
    refine ar_getf (v := .ref 67) (q := 16) rfl rfl mk_66 rfl rfl ?_
    refine ar_iload (q := 18) rfl rfl rfl ?_
    obtain ⟨hx_2, h⟩ := h
    refine ar_iald (v := I 67 s) (q := 19) rfl mk_67 (am_inE rfl hx_2 (by decide)) (am_clE rfl hx_2 (by decide)) rfl ?_
    refine ar_iload_n (j := 1) (q := 20) rfl rfl rfl rfl ?_
    obtain ⟨hA, hB⟩ := h
    refine ar_br am_c_ne (t := 38) (q := 23) rfl rfl rfl (fun c_3 => ?_) (fun c_3 => ?_)
    · have h := hB c_3
      clear hA hB
      refine ar_iconst (v := 0) (q := 39) rfl rfl rfl ?_
      refine ar_istore (ls' := [some (.ref 66), some (.int ho), some (.int a), some (.int b), some (.int (nI s)), some (.int 0)]) (q := 41) rfl rfl rfl rfl ?_
      refine ar_iload (q := 43) rfl rfl rfl ?_
      refine ar_b0 am_c_eq (t := 59) (q := 46) rfl rfl rfl (fun _ => ?_) (fun c9 => absurd (by decide) c9)
      refine ar_iinc (v := nI (s + 1)) (ls' := [some (.ref 66), some (.int ho), some (.int a), some (.int b), some (.int (nI (s + 1))), some (.int 0)]) (q := 62) rfl rfl rfl (nI_1 _) rfl rfl ?_
      refine ar_goto (t := 3) rfl rfl ?_
      exact am_Run.weak (ls' := _) (by exact ⟨rfl, ⟨rfl, ⟨rfl, ⟨rfl, ⟨rfl, trivial⟩⟩⟩⟩⟩) h
    · have c_3 := Classical.not_not.mp c_3
      have h := hA c_3
      clear hA hB
      refine ar_aload_n (j := 0) (q := 24) rfl rfl rfl rfl ?_
      refine ar_getf (v := .ref 70) (q := 27) rfl rfl mk_66 rfl rfl ?_
      refine ar_iload (q := 29) rfl rfl rfl ?_
      refine ar_iald (v := I 70 s) (q := 30) rfl mk_70 (am_inE rfl hx_2 (by decide)) (am_clE rfl hx_2 (by decide)) rfl ?_
      refine ar_iconst (v := 2) (q := 31) rfl rfl rfl ?_
      obtain ⟨hA, hB⟩ := h
      refine ar_br am_c_eq (t := 38) (q := 34) rfl rfl rfl (fun c_4 => ?_) (fun c_4 => ?_)
      · have h := hA c_4
        clear hA hB
        refine ar_iconst (v := 0) (q := 39) rfl rfl rfl ?_
        refine ar_istore (ls' := [some (.ref 66), some (.int ho), some (.int a), some (.int b), some (.int (nI s)), some (.int 0)]) (q := 41) rfl rfl rfl rfl ?_
        refine ar_iload (q := 43) rfl rfl rfl ?_
        refine ar_b0 am_c_eq (t := 59) (q := 46) rfl rfl rfl (fun _ => ?_) (fun c9 => absurd (by decide) c9)
        refine ar_iinc (v := nI (s + 1)) (ls' := [some (.ref 66), some (.int ho), some (.int a), some (.int b), some (.int (nI (s + 1))), some (.int 0)]) (q := 62) rfl rfl rfl (nI_1 _) rfl rfl ?_
        refine ar_goto (t := 3) rfl rfl ?_
        exact am_Run.weak (ls' := _) (by exact ⟨rfl, ⟨rfl, ⟨rfl, ⟨rfl, ⟨rfl, trivial⟩⟩⟩⟩⟩) h
      · have h := hB c_4
        clear hA hB
        refine ar_iconst (v := 1) (q := 35) rfl rfl rfl ?_
        refine ar_goto (t := 39) rfl rfl ?_
        refine ar_istore (ls' := [some (.ref 66), some (.int ho), some (.int a), some (.int b), some (.int (nI s)), some (.int 1)]) (q := 41) rfl rfl rfl rfl ?_
        refine ar_iload (q := 43) rfl rfl rfl ?_
        refine ar_b0 am_c_eq (t := 59) (q := 46) rfl rfl rfl (fun c9 => absurd c9 (by decide)) (fun _ => ?_)
        refine ar_aload_n (j := 0) (q := 47) rfl rfl rfl rfl ?_
        refine ar_iload (q := 49) rfl rfl rfl ?_
        refine ar_iload_n (j := 2) (q := 50) rfl rfl rfl rfl ?_
        refine ar_iload_n (j := 3) (q := 51) rfl rfl rfl rfl ?_
        refine ar_invv (as := [.int (nI s), .int a, .int b]) (rest := []) (b2 := (0, 0)) (b3 := (0, 0)) (q := 54) rfl rfl rfl rfl mk_66 rfl rfl rfl rfl rfl ?_
        obtain ⟨hp_5, h⟩ := h
        refine ok_St_daysWithin (by omega) rfl hp_5 ?_
        show am_Run am_X0 (am_meth d) 115 R 54 [some (.ref 66), some (.int ho), some (.int a), some (.int b), some (.int (nI s)), some (.int 1)] [.int (am_dw (I 68 s) (I 69 s) a b)] (am_mk I L, 0, 0)
        obtain ⟨hA, hB⟩ := h
        refine ar_b0 am_c_le (t := 59) (q := 57) rfl rfl rfl (fun c_6 => ?_) (fun c_6 => ?_)
        · have h := hA c_6
          clear hA hB
          refine ar_iinc (v := nI (s + 1)) (ls' := [some (.ref 66), some (.int ho), some (.int a), some (.int b), some (.int (nI (s + 1))), some (.int 1)]) (q := 62) rfl rfl rfl (nI_1 _) rfl rfl ?_
          refine ar_goto (t := 3) rfl rfl ?_
          exact am_Run.weak (ls' := _) (by exact ⟨rfl, ⟨rfl, ⟨rfl, ⟨rfl, ⟨rfl, trivial⟩⟩⟩⟩⟩) h
        · have h := hB c_6
          clear hA hB
          refine ar_iconst (v := 1) (q := 58) rfl rfl rfl ?_
          exact ar_zret rfl rfl (Or.inr rfl) h
theorem r_H_stay_0 {d : Nat} (hd : 1 ≤ d) {R : am_R} {I : Nat → Nat → Int32} {L : Nat → Nat → Int64} {ho : Int32} {a : Int32} {b : Int32} (h : ((0 ≤ ho ∧ ho < I 42 0 → (((a ≤ (I 66 0) → (R (some (.int (-4 : Int32))) (am_mk (am_rf I 4) L, 0, 0))) ∧ (¬ a ≤ (I 66 0) → (((b < a → (R (some (.int (-4 : Int32))) (am_mk (am_rf I 4) L, 0, 0))) ∧ (¬ b < a → (((b ≤ 1500 → ((((I 66 1) < 60 → (am_meth d 115 [.ref 66, .int ho, .int a, .int b] (am_mk I L, 0, 0) (am_ri (fun z_6 I_7 L_8 => ((z_6 = 0 → ((am_ix I_7 66 1 60) ∧ (R (some (.int (I_7 66 1))) (am_mk (am_sa I_7 ho a b) L_8, 0, 0)))) ∧ (¬ z_6 = 0 → (R (some (.int (-3 : Int32))) (am_mk (am_rf I_7 3) L_8, 0, 0)))))))) ∧ (¬ (I 66 1) < 60 → (R (some (.int (-6 : Int32))) (am_mk (am_rf I 6) L, 0, 0)))))) ∧ (¬ b ≤ 1500 → (R (some (.int (-6 : Int32))) (am_mk (am_rf I 6) L, 0, 0)))))))))))) ∧ (¬ (0 ≤ ho ∧ ho < I 42 0) → (R (some (.int (-1 : Int32))) (am_mk (am_rf I 1) L, 0, 0))))) : am_Run am_X0 (am_meth d) 9 R 0 [some (.ref 0), some (.int ho), some (.int a), some (.int b)] [] (am_mk I L, 0, 0) := by
  refine ar_aload_n (j := 0) (q := 1) rfl rfl rfl rfl ?_
  refine ar_getf (v := .ref 42) (q := 4) rfl rfl mk_0 rfl rfl ?_
  refine ar_iload_n (j := 1) (q := 5) rfl rfl rfl rfl ?_
  refine ar_invv (as := [.int ho]) (rest := []) (b2 := (0, 0)) (b3 := (0, 0)) (q := 8) rfl rfl rfl rfl mk_42 rfl rfl rfl rfl rfl ?_
  obtain ⟨hA, hB⟩ := h
  refine ok_Ho_has (by omega)  (fun c_1 => ?_) (fun c_1 => ?_)
  · have h := hA c_1
    clear hA hB
    show am_Run am_X0 (am_meth d) 9 R 8 [some (.ref 0), some (.int ho), some (.int a), some (.int b)] [.int 1] (am_mk I L, 0, 0)
    refine ar_b0 am_c_ne (t := 17) (q := 11) rfl rfl rfl (fun _ => ?_) (fun c9 => absurd (by decide) c9)
    refine ar_iload_n (j := 2) (q := 18) rfl rfl rfl rfl ?_
    refine ar_aload_n (j := 0) (q := 19) rfl rfl rfl rfl ?_
    refine ar_getf (v := .ref 66) (q := 22) rfl rfl mk_0 rfl rfl ?_
    refine ar_getf (v := .int (I 66 0)) (q := 25) rfl rfl mk_66 rfl rfl ?_
    obtain ⟨hA, hB⟩ := h
    refine ar_br am_c_le (t := 33) (q := 28) rfl rfl rfl (fun c_2 => ?_) (fun c_2 => ?_)
    · have h := hA c_2
      clear hA hB
      refine ar_aload_n (j := 0) (q := 34) rfl rfl rfl rfl ?_
      refine ar_bipush (v := (-4 : Int32)) (q := 36) rfl rfl rfl ?_
      refine ar_invv (as := [.int (-4 : Int32)]) (rest := []) (b2 := (0, 0)) (b3 := (0, 0)) (q := 39) rfl rfl rfl rfl mk_0 rfl rfl rfl rfl rfl ?_
      refine ok_refuse (j := 4) (by omega) (by decide) (by decide) ?_
      show am_Run am_X0 (am_meth d) 9 R 39 [some (.ref 0), some (.int ho), some (.int a), some (.int b)] [.int (-4 : Int32)] (am_mk (am_rf I 4) L, 0, 0)
      exact ar_iret rfl rfl h
    · have h := hB c_2
      clear hA hB
      refine ar_iload_n (j := 3) (q := 29) rfl rfl rfl rfl ?_
      refine ar_iload_n (j := 2) (q := 30) rfl rfl rfl rfl ?_
      obtain ⟨hA, hB⟩ := h
      refine ar_br am_d_ge (t := 40) (q := 33) rfl rfl rfl (fun c_3 => ?_) (fun c_3 => ?_)
      · have h := hB c_3
        clear hA hB
        refine ar_iload_n (j := 3) (q := 41) rfl rfl rfl rfl ?_
        refine ar_sipush (v := 1500) (q := 44) rfl rfl rfl ?_
        obtain ⟨hA, hB⟩ := h
        refine ar_br am_d_gt (t := 59) (q := 47) rfl rfl rfl (fun c_4 => ?_) (fun c_4 => ?_)
        · have h := hB c_4
          clear hA hB
          refine ar_aload_n (j := 0) (q := 60) rfl rfl rfl rfl ?_
          refine ar_bipush (v := (-6 : Int32)) (q := 62) rfl rfl rfl ?_
          refine ar_invv (as := [.int (-6 : Int32)]) (rest := []) (b2 := (0, 0)) (b3 := (0, 0)) (q := 65) rfl rfl rfl rfl mk_0 rfl rfl rfl rfl rfl ?_
          refine ok_refuse (j := 6) (by omega) (by decide) (by decide) ?_
          show am_Run am_X0 (am_meth d) 9 R 65 [some (.ref 0), some (.int ho), some (.int a), some (.int b)] [.int (-6 : Int32)] (am_mk (am_rf I 6) L, 0, 0)
          exact ar_iret rfl rfl h
        · have c_4 := Classical.not_not.mp c_4
          have h := hA c_4
          clear hA hB
          refine ar_aload_n (j := 0) (q := 48) rfl rfl rfl rfl ?_
          refine ar_getf (v := .ref 66) (q := 51) rfl rfl mk_0 rfl rfl ?_
          refine ar_getf (v := .int (I 66 1)) (q := 54) rfl rfl mk_66 rfl rfl ?_
          refine ar_bipush (v := 60) (q := 56) rfl rfl rfl ?_
          obtain ⟨hA, hB⟩ := h
          refine ar_br am_c_lt (t := 66) (q := 59) rfl rfl rfl (fun c_5 => ?_) (fun c_5 => ?_)
          · have h := hA c_5
            clear hA hB
            refine ar_aload_n (j := 0) (q := 67) rfl rfl rfl rfl ?_
            refine ar_getf (v := .ref 66) (q := 70) rfl rfl mk_0 rfl rfl ?_
            refine ar_iload_n (j := 1) (q := 71) rfl rfl rfl rfl ?_
            refine ar_iload_n (j := 2) (q := 72) rfl rfl rfl rfl ?_
            refine ar_iload_n (j := 3) (q := 73) rfl rfl rfl rfl ?_
            refine ar_invv (as := [.int ho, .int a, .int b]) (rest := []) (b2 := (0, 0)) (b3 := (0, 0)) (q := 76) rfl rfl rfl rfl mk_66 rfl rfl rfl rfl rfl ?_
            refine am_meth_mono d _ _ _ _ _ (fun v9 m9 h9 => ?_) h
            obtain ⟨z_6, I_7, L_8, rfl, rfl, h⟩ := h9
            show am_Run am_X0 (am_meth d) 9 R 76 [some (.ref 0), some (.int ho), some (.int a), some (.int b)] [.int z_6] (am_mk I_7 L_8, 0, 0)
            obtain ⟨hA, hB⟩ := h
            refine ar_b0 am_c_eq (t := 86) (q := 79) rfl rfl rfl (fun c_9 => ?_) (fun c_9 => ?_)
            · have h := hA c_9
              clear hA hB
              refine ar_aload_n (j := 0) (q := 87) rfl rfl rfl rfl ?_
              refine ar_getf (v := .ref 66) (q := 90) rfl rfl mk_0 rfl rfl ?_
              refine ar_iload_n (j := 1) (q := 91) rfl rfl rfl rfl ?_
              refine ar_iload_n (j := 2) (q := 92) rfl rfl rfl rfl ?_
              refine ar_iload_n (j := 3) (q := 93) rfl rfl rfl rfl ?_
              refine ar_invv (as := [.int ho, .int a, .int b]) (rest := []) (b2 := (0, 0)) (b3 := (0, 0)) (q := 96) rfl rfl rfl rfl mk_66 rfl rfl rfl rfl rfl ?_
              obtain ⟨hp_10, h⟩ := h
              refine ok_St_add (by omega) hp_10 ?_
              show am_Run am_X0 (am_meth d) 9 R 96 [some (.ref 0), some (.int ho), some (.int a), some (.int b)] [.int (I_7 66 1)] (am_mk (am_sa I_7 ho a b) L_8, 0, 0)
              exact ar_iret rfl rfl h
            · have h := hB c_9
              clear hA hB
              refine ar_aload_n (j := 0) (q := 80) rfl rfl rfl rfl ?_
              refine ar_bipush (v := (-3 : Int32)) (q := 82) rfl rfl rfl ?_
              refine ar_invv (as := [.int (-3 : Int32)]) (rest := []) (b2 := (0, 0)) (b3 := (0, 0)) (q := 85) rfl rfl rfl rfl mk_0 rfl rfl rfl rfl rfl ?_
              refine ok_refuse (j := 3) (by omega) (by decide) (by decide) ?_
              show am_Run am_X0 (am_meth d) 9 R 85 [some (.ref 0), some (.int ho), some (.int a), some (.int b)] [.int (-3 : Int32)] (am_mk (am_rf I_7 3) L_8, 0, 0)
              exact ar_iret rfl rfl h
          · have h := hB c_5
            clear hA hB
            refine ar_aload_n (j := 0) (q := 60) rfl rfl rfl rfl ?_
            refine ar_bipush (v := (-6 : Int32)) (q := 62) rfl rfl rfl ?_
            refine ar_invv (as := [.int (-6 : Int32)]) (rest := []) (b2 := (0, 0)) (b3 := (0, 0)) (q := 65) rfl rfl rfl rfl mk_0 rfl rfl rfl rfl rfl ?_
            refine ok_refuse (j := 6) (by omega) (by decide) (by decide) ?_
            show am_Run am_X0 (am_meth d) 9 R 65 [some (.ref 0), some (.int ho), some (.int a), some (.int b)] [.int (-6 : Int32)] (am_mk (am_rf I 6) L, 0, 0)
            exact ar_iret rfl rfl h
      · have c_3 := Classical.not_not.mp c_3
        have h := hA c_3
        clear hA hB
        refine ar_aload_n (j := 0) (q := 34) rfl rfl rfl rfl ?_
        refine ar_bipush (v := (-4 : Int32)) (q := 36) rfl rfl rfl ?_
        refine ar_invv (as := [.int (-4 : Int32)]) (rest := []) (b2 := (0, 0)) (b3 := (0, 0)) (q := 39) rfl rfl rfl rfl mk_0 rfl rfl rfl rfl rfl ?_
        refine ok_refuse (j := 4) (by omega) (by decide) (by decide) ?_
        show am_Run am_X0 (am_meth d) 9 R 39 [some (.ref 0), some (.int ho), some (.int a), some (.int b)] [.int (-4 : Int32)] (am_mk (am_rf I 4) L, 0, 0)
        exact ar_iret rfl rfl h
  · have h := hB c_1
    clear hA hB
    show am_Run am_X0 (am_meth d) 9 R 8 [some (.ref 0), some (.int ho), some (.int a), some (.int b)] [.int 0] (am_mk I L, 0, 0)
    refine ar_b0 am_c_ne (t := 17) (q := 11) rfl rfl rfl (fun c9 => absurd (by decide) c9) (fun _ => ?_)
    refine ar_aload_n (j := 0) (q := 12) rfl rfl rfl rfl ?_
    refine ar_iconst (v := (-1 : Int32)) (q := 13) rfl rfl rfl ?_
    refine ar_invv (as := [.int (-1 : Int32)]) (rest := []) (b2 := (0, 0)) (b3 := (0, 0)) (q := 16) rfl rfl rfl rfl mk_0 rfl rfl rfl rfl rfl ?_
    refine ok_refuse (j := 1) (by omega) (by decide) (by decide) ?_
    show am_Run am_X0 (am_meth d) 9 R 16 [some (.ref 0), some (.int ho), some (.int a), some (.int b)] [.int (-1 : Int32)] (am_mk (am_rf I 1) L, 0, 0)
    exact ar_iret rfl rfl h
theorem r_M_stay_0 {d : Nat} (hd : 1 ≤ d) {R : am_R} {I : Nat → Nat → Int32} {L : Nat → Nat → Int64} {ho : Int32} {a : Int32} {b : Int32} (h : ((0 ≤ ho ∧ ho < I 113 10 → (((a ≤ (I 113 0) → (R (some (.int (-4 : Int32))) (am_mk (am_no I 4) L, 0, 0))) ∧ (¬ a ≤ (I 113 0) → (((b < a → (R (some (.int (-4 : Int32))) (am_mk (am_no I 4) L, 0, 0))) ∧ (¬ b < a → (((a ≤ 1500 → (((b ≤ 1500 → ((((I 113 14) = 60 → (R (some (.int (-6 : Int32))) (am_mk (am_no I 6) L, 0, 0))) ∧ (¬ (I 113 14) = 60 → (am_Run am_X0 (am_meth d) 158 R 67 [some (.ref 113), some (.int ho), some (.int a), some (.int b), some (.int 0)] [] (am_mk I L, 0, 0)))))) ∧ (¬ b ≤ 1500 → (R (some (.int (-6 : Int32))) (am_mk (am_no I 6) L, 0, 0)))))) ∧ (¬ a ≤ 1500 → (R (some (.int (-6 : Int32))) (am_mk (am_no I 6) L, 0, 0)))))))))))) ∧ (¬ (0 ≤ ho ∧ ho < I 113 10) → (R (some (.int (-1 : Int32))) (am_mk (am_no I 1) L, 0, 0))))) : am_Run am_X0 (am_meth d) 158 R 0 [some (.ref 113), some (.int ho), some (.int a), some (.int b), none] [] (am_mk I L, 0, 0) := by
  refine ar_aload_n (j := 0) (q := 1) rfl rfl rfl rfl ?_
  refine ar_iload_n (j := 1) (q := 2) rfl rfl rfl rfl ?_
  refine ar_invv (as := [.int ho]) (rest := []) (b2 := (0, 0)) (b3 := (0, 0)) (q := 5) rfl rfl rfl rfl mk_113 rfl rfl rfl rfl rfl ?_
  obtain ⟨hA, hB⟩ := h
  refine ok_M_isHouse (by omega)  (fun c_1 => ?_) (fun c_1 => ?_)
  · have h := hA c_1
    clear hA hB
    show am_Run am_X0 (am_meth d) 158 R 5 [some (.ref 113), some (.int ho), some (.int a), some (.int b), none] [.int 1] (am_mk I L, 0, 0)
    refine ar_b0 am_c_ne (t := 14) (q := 8) rfl rfl rfl (fun _ => ?_) (fun c9 => absurd (by decide) c9)
    refine ar_iload_n (j := 2) (q := 15) rfl rfl rfl rfl ?_
    refine ar_aload_n (j := 0) (q := 16) rfl rfl rfl rfl ?_
    refine ar_getf (v := .int (I 113 0)) (q := 19) rfl rfl mk_113 rfl rfl ?_
    obtain ⟨hA, hB⟩ := h
    refine ar_br am_c_le (t := 27) (q := 22) rfl rfl rfl (fun c_2 => ?_) (fun c_2 => ?_)
    · have h := hA c_2
      clear hA hB
      refine ar_aload_n (j := 0) (q := 28) rfl rfl rfl rfl ?_
      refine ar_bipush (v := (-4 : Int32)) (q := 30) rfl rfl rfl ?_
      refine ar_invv (as := [.int (-4 : Int32)]) (rest := []) (b2 := (0, 0)) (b3 := (0, 0)) (q := 33) rfl rfl rfl rfl mk_113 rfl rfl rfl rfl rfl ?_
      refine ok_no (j := 4) (by omega) (by decide) (by decide) ?_
      show am_Run am_X0 (am_meth d) 158 R 33 [some (.ref 113), some (.int ho), some (.int a), some (.int b), none] [.int (-4 : Int32)] (am_mk (am_no I 4) L, 0, 0)
      exact ar_iret rfl rfl h
    · have h := hB c_2
      clear hA hB
      refine ar_iload_n (j := 3) (q := 23) rfl rfl rfl rfl ?_
      refine ar_iload_n (j := 2) (q := 24) rfl rfl rfl rfl ?_
      obtain ⟨hA, hB⟩ := h
      refine ar_br am_d_ge (t := 34) (q := 27) rfl rfl rfl (fun c_3 => ?_) (fun c_3 => ?_)
      · have h := hB c_3
        clear hA hB
        refine ar_iload_n (j := 2) (q := 35) rfl rfl rfl rfl ?_
        refine ar_sipush (v := 1500) (q := 38) rfl rfl rfl ?_
        obtain ⟨hA, hB⟩ := h
        refine ar_br am_d_gt (t := 57) (q := 41) rfl rfl rfl (fun c_4 => ?_) (fun c_4 => ?_)
        · have h := hB c_4
          clear hA hB
          refine ar_aload_n (j := 0) (q := 58) rfl rfl rfl rfl ?_
          refine ar_bipush (v := (-6 : Int32)) (q := 60) rfl rfl rfl ?_
          refine ar_invv (as := [.int (-6 : Int32)]) (rest := []) (b2 := (0, 0)) (b3 := (0, 0)) (q := 63) rfl rfl rfl rfl mk_113 rfl rfl rfl rfl rfl ?_
          refine ok_no (j := 6) (by omega) (by decide) (by decide) ?_
          show am_Run am_X0 (am_meth d) 158 R 63 [some (.ref 113), some (.int ho), some (.int a), some (.int b), none] [.int (-6 : Int32)] (am_mk (am_no I 6) L, 0, 0)
          exact ar_iret rfl rfl h
        · have c_4 := Classical.not_not.mp c_4
          have h := hA c_4
          clear hA hB
          refine ar_iload_n (j := 3) (q := 42) rfl rfl rfl rfl ?_
          refine ar_sipush (v := 1500) (q := 45) rfl rfl rfl ?_
          obtain ⟨hA, hB⟩ := h
          refine ar_br am_d_gt (t := 57) (q := 48) rfl rfl rfl (fun c_5 => ?_) (fun c_5 => ?_)
          · have h := hB c_5
            clear hA hB
            refine ar_aload_n (j := 0) (q := 58) rfl rfl rfl rfl ?_
            refine ar_bipush (v := (-6 : Int32)) (q := 60) rfl rfl rfl ?_
            refine ar_invv (as := [.int (-6 : Int32)]) (rest := []) (b2 := (0, 0)) (b3 := (0, 0)) (q := 63) rfl rfl rfl rfl mk_113 rfl rfl rfl rfl rfl ?_
            refine ok_no (j := 6) (by omega) (by decide) (by decide) ?_
            show am_Run am_X0 (am_meth d) 158 R 63 [some (.ref 113), some (.int ho), some (.int a), some (.int b), none] [.int (-6 : Int32)] (am_mk (am_no I 6) L, 0, 0)
            exact ar_iret rfl rfl h
          · have c_5 := Classical.not_not.mp c_5
            have h := hA c_5
            clear hA hB
            refine ar_aload_n (j := 0) (q := 49) rfl rfl rfl rfl ?_
            refine ar_getf (v := .int (I 113 14)) (q := 52) rfl rfl mk_113 rfl rfl ?_
            refine ar_bipush (v := 60) (q := 54) rfl rfl rfl ?_
            obtain ⟨hA, hB⟩ := h
            refine ar_br am_c_ne (t := 64) (q := 57) rfl rfl rfl (fun c_6 => ?_) (fun c_6 => ?_)
            · have h := hB c_6
              clear hA hB
              refine ar_iconst (v := 0) (q := 65) rfl rfl rfl ?_
              refine ar_istore (ls' := [some (.ref 113), some (.int ho), some (.int a), some (.int b), some (.int 0)]) (q := 67) rfl rfl rfl rfl ?_
              exact am_Run.weak (ls' := _) (by exact ⟨rfl, ⟨rfl, ⟨rfl, ⟨rfl, ⟨rfl, trivial⟩⟩⟩⟩⟩) h
            · have c_6 := Classical.not_not.mp c_6
              have h := hA c_6
              clear hA hB
              refine ar_aload_n (j := 0) (q := 58) rfl rfl rfl rfl ?_
              refine ar_bipush (v := (-6 : Int32)) (q := 60) rfl rfl rfl ?_
              refine ar_invv (as := [.int (-6 : Int32)]) (rest := []) (b2 := (0, 0)) (b3 := (0, 0)) (q := 63) rfl rfl rfl rfl mk_113 rfl rfl rfl rfl rfl ?_
              refine ok_no (j := 6) (by omega) (by decide) (by decide) ?_
              show am_Run am_X0 (am_meth d) 158 R 63 [some (.ref 113), some (.int ho), some (.int a), some (.int b), none] [.int (-6 : Int32)] (am_mk (am_no I 6) L, 0, 0)
              exact ar_iret rfl rfl h
      · have c_3 := Classical.not_not.mp c_3
        have h := hA c_3
        clear hA hB
        refine ar_aload_n (j := 0) (q := 28) rfl rfl rfl rfl ?_
        refine ar_bipush (v := (-4 : Int32)) (q := 30) rfl rfl rfl ?_
        refine ar_invv (as := [.int (-4 : Int32)]) (rest := []) (b2 := (0, 0)) (b3 := (0, 0)) (q := 33) rfl rfl rfl rfl mk_113 rfl rfl rfl rfl rfl ?_
        refine ok_no (j := 4) (by omega) (by decide) (by decide) ?_
        show am_Run am_X0 (am_meth d) 158 R 33 [some (.ref 113), some (.int ho), some (.int a), some (.int b), none] [.int (-4 : Int32)] (am_mk (am_no I 4) L, 0, 0)
        exact ar_iret rfl rfl h
  · have h := hB c_1
    clear hA hB
    show am_Run am_X0 (am_meth d) 158 R 5 [some (.ref 113), some (.int ho), some (.int a), some (.int b), none] [.int 0] (am_mk I L, 0, 0)
    refine ar_b0 am_c_ne (t := 14) (q := 8) rfl rfl rfl (fun c9 => absurd (by decide) c9) (fun _ => ?_)
    refine ar_aload_n (j := 0) (q := 9) rfl rfl rfl rfl ?_
    refine ar_iconst (v := (-1 : Int32)) (q := 10) rfl rfl rfl ?_
    refine ar_invv (as := [.int (-1 : Int32)]) (rest := []) (b2 := (0, 0)) (b3 := (0, 0)) (q := 13) rfl rfl rfl rfl mk_113 rfl rfl rfl rfl rfl ?_
    refine ok_no (j := 1) (by omega) (by decide) (by decide) ?_
    show am_Run am_X0 (am_meth d) 158 R 13 [some (.ref 113), some (.int ho), some (.int a), some (.int b), none] [.int (-1 : Int32)] (am_mk (am_no I 1) L, 0, 0)
    exact ar_iret rfl rfl h
theorem r_M_stay_67 {d : Nat} (hd : 1 ≤ d) {R : am_R} {I : Nat → Nat → Int32} {L : Nat → Nat → Int64} {ho : Int32} {a : Int32} {b : Int32} {s : Nat} (h : (((nI s) < (I 113 14) → (s < 60 ∧ ((((I 125 s) = ho → ((((I 128 s) < 2 → ((((I 126 s) ≤ b → ((((I 127 s) < a → (am_Run am_X0 (am_meth d) 158 R 67 [some (.ref 113), some (.int ho), some (.int a), some (.int b), some (.int (nI (s + 1)))] [] (am_mk I L, 0, 0))) ∧ (¬ (I 127 s) < a → (R (some (.int (-3 : Int32))) (am_mk (am_no I 3) L, 0, 0)))))) ∧ (¬ (I 126 s) ≤ b → (am_Run am_X0 (am_meth d) 158 R 67 [some (.ref 113), some (.int ho), some (.int a), some (.int b), some (.int (nI (s + 1)))] [] (am_mk I L, 0, 0)))))) ∧ (¬ (I 128 s) < 2 → (am_Run am_X0 (am_meth d) 158 R 67 [some (.ref 113), some (.int ho), some (.int a), some (.int b), some (.int (nI (s + 1)))] [] (am_mk I L, 0, 0)))))) ∧ (¬ (I 125 s) = ho → (am_Run am_X0 (am_meth d) 158 R 67 [some (.ref 113), some (.int ho), some (.int a), some (.int b), some (.int (nI (s + 1)))] [] (am_mk I L, 0, 0))))))) ∧ (¬ (nI s) < (I 113 14) → (∃ j_7 : Nat, j_7 < 60 ∧ I 113 14 = nI j_7 ∧ (∀ I_10 : Nat → Nat → Int32, I_10 = va_up I 125 (upd (I 125) j_7 ho) → (∃ j_12 : Nat, j_12 < 60 ∧ I_10 113 14 = nI j_12 ∧ (∀ I_15 : Nat → Nat → Int32, I_15 = va_up I_10 126 (upd (I_10 126) j_12 a) → (∃ j_17 : Nat, j_17 < 60 ∧ I_15 113 14 = nI j_17 ∧ (∀ I_20 : Nat → Nat → Int32, I_20 = va_up I_15 127 (upd (I_15 127) j_17 b) → (∃ j_22 : Nat, j_22 < 60 ∧ I_20 113 14 = nI j_22 ∧ (∀ I_25 : Nat → Nat → Int32, I_25 = va_up I_20 128 (upd (I_20 128) j_22 0) → (∃ j_27 : Nat, j_27 < 60 ∧ I_25 113 14 = nI j_27 ∧ (∀ I_30 : Nat → Nat → Int32, I_30 = va_up I_25 129 (upd (I_25 129) j_27 (-9 : Int32)) → (∀ I_32 : Nat → Nat → Int32, I_32 = va_up I_30 113 (upd (I_30 113) 14 ((I_30 113 14) + 1)) → (R (some (.int ((I_32 113 14) - 1))) (am_mk I_32 L, 0, 0)))))))))))))))) : am_Run am_X0 (am_meth d) 158 R 67 [some (.ref 113), some (.int ho), some (.int a), some (.int b), some (.int (nI s))] [] (am_mk I L, 0, 0) := by
  refine ar_iload (q := 69) rfl rfl rfl ?_
  refine ar_aload_n (j := 0) (q := 70) rfl rfl rfl rfl ?_
  refine ar_getf (v := .int (I 113 14)) (q := 73) rfl rfl mk_113 rfl rfl ?_
  obtain ⟨hA, hB⟩ := h
  refine ar_br am_d_ge (t := 133) (q := 76) rfl rfl rfl (fun c_1 => ?_) (fun c_1 => ?_)
  · have h := hB c_1
    clear hA hB
    refine ar_aload_n (j := 0) (q := 134) rfl rfl rfl rfl ?_
    refine ar_getf (v := .ref 125) (q := 137) rfl rfl mk_113 rfl rfl ?_
    refine ar_aload_n (j := 0) (q := 138) rfl rfl rfl rfl ?_
    refine ar_getf (v := .int (I 113 14)) (q := 141) rfl rfl mk_113 rfl rfl ?_
    refine ar_iload_n (j := 1) (q := 142) rfl rfl rfl rfl ?_
    obtain ⟨j_7, hx_8, hi_9, h⟩ := h
    obtain ⟨I_10, hI_11⟩ : ∃ z : Nat → Nat → Int32, z = va_up I 125 (upd (I 125) j_7 ho) := ⟨_, rfl⟩
    have h := h I_10 hI_11
    refine ar_iast (hp2 := am_mk I_10 L) (q := 143) rfl mk_125 (am_inE hi_9 hx_8 (by decide)) (by rw [am_clT hi_9 hx_8 (by decide), hI_11]; exact mk_s125) rfl ?_
    refine ar_aload_n (j := 0) (q := 144) rfl rfl rfl rfl ?_
    refine ar_getf (v := .ref 126) (q := 147) rfl rfl mk_113 rfl rfl ?_
    refine ar_aload_n (j := 0) (q := 148) rfl rfl rfl rfl ?_
    refine ar_getf (v := .int (I_10 113 14)) (q := 151) rfl rfl mk_113 rfl rfl ?_
    refine ar_iload_n (j := 2) (q := 152) rfl rfl rfl rfl ?_
    obtain ⟨j_12, hx_13, hi_14, h⟩ := h
    obtain ⟨I_15, hI_16⟩ : ∃ z : Nat → Nat → Int32, z = va_up I_10 126 (upd (I_10 126) j_12 a) := ⟨_, rfl⟩
    have h := h I_15 hI_16
    refine ar_iast (hp2 := am_mk I_15 L) (q := 153) rfl mk_126 (am_inE hi_14 hx_13 (by decide)) (by rw [am_clT hi_14 hx_13 (by decide), hI_16]; exact mk_s126) rfl ?_
    refine ar_aload_n (j := 0) (q := 154) rfl rfl rfl rfl ?_
    refine ar_getf (v := .ref 127) (q := 157) rfl rfl mk_113 rfl rfl ?_
    refine ar_aload_n (j := 0) (q := 158) rfl rfl rfl rfl ?_
    refine ar_getf (v := .int (I_15 113 14)) (q := 161) rfl rfl mk_113 rfl rfl ?_
    refine ar_iload_n (j := 3) (q := 162) rfl rfl rfl rfl ?_
    obtain ⟨j_17, hx_18, hi_19, h⟩ := h
    obtain ⟨I_20, hI_21⟩ : ∃ z : Nat → Nat → Int32, z = va_up I_15 127 (upd (I_15 127) j_17 b) := ⟨_, rfl⟩
    have h := h I_20 hI_21
    refine ar_iast (hp2 := am_mk I_20 L) (q := 163) rfl mk_127 (am_inE hi_19 hx_18 (by decide)) (by rw [am_clT hi_19 hx_18 (by decide), hI_21]; exact mk_s127) rfl ?_
    refine ar_aload_n (j := 0) (q := 164) rfl rfl rfl rfl ?_
    refine ar_getf (v := .ref 128) (q := 167) rfl rfl mk_113 rfl rfl ?_
    refine ar_aload_n (j := 0) (q := 168) rfl rfl rfl rfl ?_
    refine ar_getf (v := .int (I_20 113 14)) (q := 171) rfl rfl mk_113 rfl rfl ?_
    refine ar_iconst (v := 0) (q := 172) rfl rfl rfl ?_
    obtain ⟨j_22, hx_23, hi_24, h⟩ := h
    obtain ⟨I_25, hI_26⟩ : ∃ z : Nat → Nat → Int32, z = va_up I_20 128 (upd (I_20 128) j_22 0) := ⟨_, rfl⟩
    have h := h I_25 hI_26
    refine ar_iast (hp2 := am_mk I_25 L) (q := 173) rfl mk_128 (am_inE hi_24 hx_23 (by decide)) (by rw [am_clT hi_24 hx_23 (by decide), hI_26]; exact mk_s128) rfl ?_
    refine ar_aload_n (j := 0) (q := 174) rfl rfl rfl rfl ?_
    refine ar_getf (v := .ref 129) (q := 177) rfl rfl mk_113 rfl rfl ?_
    refine ar_aload_n (j := 0) (q := 178) rfl rfl rfl rfl ?_
    refine ar_getf (v := .int (I_25 113 14)) (q := 181) rfl rfl mk_113 rfl rfl ?_
    refine ar_bipush (v := (-9 : Int32)) (q := 183) rfl rfl rfl ?_
    obtain ⟨j_27, hx_28, hi_29, h⟩ := h
    obtain ⟨I_30, hI_31⟩ : ∃ z : Nat → Nat → Int32, z = va_up I_25 129 (upd (I_25 129) j_27 (-9 : Int32)) := ⟨_, rfl⟩
    have h := h I_30 hI_31
    refine ar_iast (hp2 := am_mk I_30 L) (q := 184) rfl mk_129 (am_inE hi_29 hx_28 (by decide)) (by rw [am_clT hi_29 hx_28 (by decide), hI_31]; exact mk_s129) rfl ?_
    refine ar_aload_n (j := 0) (q := 185) rfl rfl rfl rfl ?_
    refine ar_st (i := .dup) (n := 1) (st' := [.ref 113, .ref 113]) (q := 186) rfl rfl rfl rfl ?_
    refine ar_getf (v := .int (I_30 113 14)) (q := 189) rfl rfl mk_113 rfl rfl ?_
    refine ar_iconst (v := 1) (q := 190) rfl rfl rfl ?_
    refine ar_ib (i := .iadd) (z := (I_30 113 14) + 1) (q := 191) rfl rfl rfl rfl rfl ?_
    obtain ⟨I_32, hI_33⟩ : ∃ z : Nat → Nat → Int32, z = va_up I_30 113 (upd (I_30 113) 14 ((I_30 113 14) + 1)) := ⟨_, rfl⟩
    have h := h I_32 hI_33
    refine ar_putf (hp2 := am_mk I_32 L) (q := 194) rfl rfl mk_113 rfl (by rw [hI_33]; exact mk_p113_14) rfl ?_
    refine ar_aload_n (j := 0) (q := 195) rfl rfl rfl rfl ?_
    refine ar_getf (v := .int (I_32 113 14)) (q := 198) rfl rfl mk_113 rfl rfl ?_
    refine ar_iconst (v := 1) (q := 199) rfl rfl rfl ?_
    refine ar_ib (i := .isub) (z := (I_32 113 14) - 1) (q := 200) rfl rfl rfl rfl rfl ?_
    exact ar_iret rfl rfl h
  · have c_1 := Classical.not_not.mp c_1
    have h := hA c_1
    clear hA hB
    refine ar_aload_n (j := 0) (q := 77) rfl rfl rfl rfl ?_
    refine ar_getf (v := .ref 125) (q := 80) rfl rfl mk_113 rfl rfl ?_
    refine ar_iload (q := 82) rfl rfl rfl ?_
    obtain ⟨hx_2, h⟩ := h
    refine ar_iald (v := I 125 s) (q := 83) rfl mk_125 (am_inE rfl hx_2 (by decide)) (am_clE rfl hx_2 (by decide)) rfl ?_
    refine ar_iload_n (j := 1) (q := 84) rfl rfl rfl rfl ?_
    obtain ⟨hA, hB⟩ := h
    refine ar_br am_c_ne (t := 127) (q := 87) rfl rfl rfl (fun c_3 => ?_) (fun c_3 => ?_)
    · have h := hB c_3
      clear hA hB
      refine ar_iinc (v := nI (s + 1)) (ls' := [some (.ref 113), some (.int ho), some (.int a), some (.int b), some (.int (nI (s + 1)))]) (q := 130) rfl rfl rfl (nI_1 _) rfl rfl ?_
      refine ar_goto (t := 67) rfl rfl ?_
      exact am_Run.weak (ls' := _) (by exact ⟨rfl, ⟨rfl, ⟨rfl, ⟨rfl, ⟨rfl, trivial⟩⟩⟩⟩⟩) h
    · have c_3 := Classical.not_not.mp c_3
      have h := hA c_3
      clear hA hB
      refine ar_aload_n (j := 0) (q := 88) rfl rfl rfl rfl ?_
      refine ar_getf (v := .ref 128) (q := 91) rfl rfl mk_113 rfl rfl ?_
      refine ar_iload (q := 93) rfl rfl rfl ?_
      refine ar_iald (v := I 128 s) (q := 94) rfl mk_128 (am_inE rfl hx_2 (by decide)) (am_clE rfl hx_2 (by decide)) rfl ?_
      refine ar_iconst (v := 2) (q := 95) rfl rfl rfl ?_
      obtain ⟨hA, hB⟩ := h
      refine ar_br am_d_ge (t := 127) (q := 98) rfl rfl rfl (fun c_4 => ?_) (fun c_4 => ?_)
      · have h := hB c_4
        clear hA hB
        refine ar_iinc (v := nI (s + 1)) (ls' := [some (.ref 113), some (.int ho), some (.int a), some (.int b), some (.int (nI (s + 1)))]) (q := 130) rfl rfl rfl (nI_1 _) rfl rfl ?_
        refine ar_goto (t := 67) rfl rfl ?_
        exact am_Run.weak (ls' := _) (by exact ⟨rfl, ⟨rfl, ⟨rfl, ⟨rfl, ⟨rfl, trivial⟩⟩⟩⟩⟩) h
      · have c_4 := Classical.not_not.mp c_4
        have h := hA c_4
        clear hA hB
        refine ar_aload_n (j := 0) (q := 99) rfl rfl rfl rfl ?_
        refine ar_getf (v := .ref 126) (q := 102) rfl rfl mk_113 rfl rfl ?_
        refine ar_iload (q := 104) rfl rfl rfl ?_
        refine ar_iald (v := I 126 s) (q := 105) rfl mk_126 (am_inE rfl hx_2 (by decide)) (am_clE rfl hx_2 (by decide)) rfl ?_
        refine ar_iload_n (j := 3) (q := 106) rfl rfl rfl rfl ?_
        obtain ⟨hA, hB⟩ := h
        refine ar_br am_d_gt (t := 127) (q := 109) rfl rfl rfl (fun c_5 => ?_) (fun c_5 => ?_)
        · have h := hB c_5
          clear hA hB
          refine ar_iinc (v := nI (s + 1)) (ls' := [some (.ref 113), some (.int ho), some (.int a), some (.int b), some (.int (nI (s + 1)))]) (q := 130) rfl rfl rfl (nI_1 _) rfl rfl ?_
          refine ar_goto (t := 67) rfl rfl ?_
          exact am_Run.weak (ls' := _) (by exact ⟨rfl, ⟨rfl, ⟨rfl, ⟨rfl, ⟨rfl, trivial⟩⟩⟩⟩⟩) h
        · have c_5 := Classical.not_not.mp c_5
          have h := hA c_5
          clear hA hB
          refine ar_aload_n (j := 0) (q := 110) rfl rfl rfl rfl ?_
          refine ar_getf (v := .ref 127) (q := 113) rfl rfl mk_113 rfl rfl ?_
          refine ar_iload (q := 115) rfl rfl rfl ?_
          refine ar_iald (v := I 127 s) (q := 116) rfl mk_127 (am_inE rfl hx_2 (by decide)) (am_clE rfl hx_2 (by decide)) rfl ?_
          refine ar_iload_n (j := 2) (q := 117) rfl rfl rfl rfl ?_
          obtain ⟨hA, hB⟩ := h
          refine ar_br am_c_lt (t := 127) (q := 120) rfl rfl rfl (fun c_6 => ?_) (fun c_6 => ?_)
          · have h := hA c_6
            clear hA hB
            refine ar_iinc (v := nI (s + 1)) (ls' := [some (.ref 113), some (.int ho), some (.int a), some (.int b), some (.int (nI (s + 1)))]) (q := 130) rfl rfl rfl (nI_1 _) rfl rfl ?_
            refine ar_goto (t := 67) rfl rfl ?_
            exact am_Run.weak (ls' := _) (by exact ⟨rfl, ⟨rfl, ⟨rfl, ⟨rfl, ⟨rfl, trivial⟩⟩⟩⟩⟩) h
          · have h := hB c_6
            clear hA hB
            refine ar_aload_n (j := 0) (q := 121) rfl rfl rfl rfl ?_
            refine ar_bipush (v := (-3 : Int32)) (q := 123) rfl rfl rfl ?_
            refine ar_invv (as := [.int (-3 : Int32)]) (rest := []) (b2 := (0, 0)) (b3 := (0, 0)) (q := 126) rfl rfl rfl rfl mk_113 rfl rfl rfl rfl rfl ?_
            refine ok_no (j := 3) (by omega) (by decide) (by decide) ?_
            show am_Run am_X0 (am_meth d) 158 R 126 [some (.ref 113), some (.int ho), some (.int a), some (.int b), some (.int (nI s))] [.int (-3 : Int32)] (am_mk (am_no I 3) L, 0, 0)
            exact ar_iret rfl rfl h
theorem r_H_feed_0 {d : Nat} (hd : 1 ≤ d) {R : am_R} {I : Nat → Nat → Int32} {L : Nat → Nat → Int64} {n : Int32} {b : Int64} (h : ((n < 1 → (R (some (.int (-4 : Int32))) (am_mk (am_rf I 4) L, 0, 0))) ∧ ((¬ n < 1 ∧ 8 < n) → (R (some (.int (-6 : Int32))) (am_mk (am_rf I 6) L, 0, 0))) ∧ ((¬ n < 1 ∧ ¬ 8 < n) → (((n ≤ 60 - I 91 0 → (am_Run am_X0 (am_meth d) 15 R 42 [some (.ref 0), some (.int n), some (.long b), none, none, some (.int 0)] [] (am_mk I L, 0, 0))) ∧ (¬ (n ≤ 60 - I 91 0) → (R (some (.int (-6 : Int32))) (am_mk (am_rf I 6) L, 0, 0)))))))) : am_Run am_X0 (am_meth d) 15 R 0 [some (.ref 0), some (.int n), some (.long b), none, none, none] [] (am_mk I L, 0, 0) := by
  refine ar_iload_n (j := 1) (q := 1) rfl rfl rfl rfl ?_
  refine ar_iconst (v := 1) (q := 2) rfl rfl rfl ?_
  refine ar_bipush (v := 8) (q := 4) rfl rfl rfl ?_
  refine ar_invs (as := [.int n, .int 1, .int 8]) (rest := []) (b2 := (0, 0)) (b3 := (0, 0)) (q := 7) rfl rfl rfl rfl rfl rfl rfl rfl rfl ?_
  obtain ⟨hC0, hC1, hC2⟩ := h
  refine ok_bound (by omega)  (fun c_1 => ?_) (fun c_1 => ?_) (fun c_1 => ?_)
  · have h := hC0 c_1
    clear hC0 hC1 hC2
    show am_Run am_X0 (am_meth d) 15 R 7 [some (.ref 0), some (.int n), some (.long b), none, none, none] [.int (-4 : Int32)] (am_mk I L, 0, 0)
    refine ar_istore (ls' := [some (.ref 0), some (.int n), some (.long b), none, some (.int (-4 : Int32)), none]) (q := 9) rfl rfl rfl rfl ?_
    refine ar_iload (q := 11) rfl rfl rfl ?_
    refine ar_b0 am_c_eq (t := 21) (q := 14) rfl rfl rfl (fun c9 => absurd c9 (by decide)) (fun _ => ?_)
    refine ar_aload_n (j := 0) (q := 15) rfl rfl rfl rfl ?_
    refine ar_iload (q := 17) rfl rfl rfl ?_
    refine ar_invv (as := [.int (-4 : Int32)]) (rest := []) (b2 := (0, 0)) (b3 := (0, 0)) (q := 20) rfl rfl rfl rfl mk_0 rfl rfl rfl rfl rfl ?_
    refine ok_refuse (j := 4) (by omega) (by decide) (by decide) ?_
    show am_Run am_X0 (am_meth d) 15 R 20 [some (.ref 0), some (.int n), some (.long b), none, some (.int (-4 : Int32)), none] [.int (-4 : Int32)] (am_mk (am_rf I 4) L, 0, 0)
    exact ar_iret rfl rfl h
  · have h := hC1 c_1
    clear hC0 hC1 hC2
    show am_Run am_X0 (am_meth d) 15 R 7 [some (.ref 0), some (.int n), some (.long b), none, none, none] [.int (-6 : Int32)] (am_mk I L, 0, 0)
    refine ar_istore (ls' := [some (.ref 0), some (.int n), some (.long b), none, some (.int (-6 : Int32)), none]) (q := 9) rfl rfl rfl rfl ?_
    refine ar_iload (q := 11) rfl rfl rfl ?_
    refine ar_b0 am_c_eq (t := 21) (q := 14) rfl rfl rfl (fun c9 => absurd c9 (by decide)) (fun _ => ?_)
    refine ar_aload_n (j := 0) (q := 15) rfl rfl rfl rfl ?_
    refine ar_iload (q := 17) rfl rfl rfl ?_
    refine ar_invv (as := [.int (-6 : Int32)]) (rest := []) (b2 := (0, 0)) (b3 := (0, 0)) (q := 20) rfl rfl rfl rfl mk_0 rfl rfl rfl rfl rfl ?_
    refine ok_refuse (j := 6) (by omega) (by decide) (by decide) ?_
    show am_Run am_X0 (am_meth d) 15 R 20 [some (.ref 0), some (.int n), some (.long b), none, some (.int (-6 : Int32)), none] [.int (-6 : Int32)] (am_mk (am_rf I 6) L, 0, 0)
    exact ar_iret rfl rfl h
  · have h := hC2 c_1
    clear hC0 hC1 hC2
    show am_Run am_X0 (am_meth d) 15 R 7 [some (.ref 0), some (.int n), some (.long b), none, none, none] [.int 0] (am_mk I L, 0, 0)
    refine ar_istore (ls' := [some (.ref 0), some (.int n), some (.long b), none, some (.int 0), none]) (q := 9) rfl rfl rfl rfl ?_
    refine ar_iload (q := 11) rfl rfl rfl ?_
    refine ar_b0 am_c_eq (t := 21) (q := 14) rfl rfl rfl (fun _ => ?_) (fun c9 => absurd (by decide) c9)
    refine ar_aload_n (j := 0) (q := 22) rfl rfl rfl rfl ?_
    refine ar_getf (v := .ref 91) (q := 25) rfl rfl mk_0 rfl rfl ?_
    refine ar_iload_n (j := 1) (q := 26) rfl rfl rfl rfl ?_
    refine ar_invv (as := [.int n]) (rest := []) (b2 := (0, 0)) (b3 := (0, 0)) (q := 29) rfl rfl rfl rfl mk_91 rfl rfl rfl rfl rfl ?_
    obtain ⟨hA, hB⟩ := h
    refine ok_Ro_hasRoomFor_tape (by omega)  (fun c_2 => ?_) (fun c_2 => ?_)
    · have h := hA c_2
      clear hA hB
      show am_Run am_X0 (am_meth d) 15 R 29 [some (.ref 0), some (.int n), some (.long b), none, some (.int 0), none] [.int 1] (am_mk I L, 0, 0)
      refine ar_b0 am_c_ne (t := 39) (q := 32) rfl rfl rfl (fun _ => ?_) (fun c9 => absurd (by decide) c9)
      refine ar_iconst (v := 0) (q := 40) rfl rfl rfl ?_
      refine ar_istore (ls' := [some (.ref 0), some (.int n), some (.long b), none, some (.int 0), some (.int 0)]) (q := 42) rfl rfl rfl rfl ?_
      exact am_Run.weak (ls' := _) (by exact ⟨rfl, ⟨rfl, ⟨rfl, ⟨rfl, trivial⟩⟩⟩⟩) h
    · have h := hB c_2
      clear hA hB
      show am_Run am_X0 (am_meth d) 15 R 29 [some (.ref 0), some (.int n), some (.long b), none, some (.int 0), none] [.int 0] (am_mk I L, 0, 0)
      refine ar_b0 am_c_ne (t := 39) (q := 32) rfl rfl rfl (fun c9 => absurd (by decide) c9) (fun _ => ?_)
      refine ar_aload_n (j := 0) (q := 33) rfl rfl rfl rfl ?_
      refine ar_bipush (v := (-6 : Int32)) (q := 35) rfl rfl rfl ?_
      refine ar_invv (as := [.int (-6 : Int32)]) (rest := []) (b2 := (0, 0)) (b3 := (0, 0)) (q := 38) rfl rfl rfl rfl mk_0 rfl rfl rfl rfl rfl ?_
      refine ok_refuse (j := 6) (by omega) (by decide) (by decide) ?_
      show am_Run am_X0 (am_meth d) 15 R 38 [some (.ref 0), some (.int n), some (.long b), none, some (.int 0), none] [.int (-6 : Int32)] (am_mk (am_rf I 6) L, 0, 0)
      exact ar_iret rfl rfl h
theorem r_H_feed_42 {d : Nat} (hd : 1 ≤ d) {R : am_R} {I : Nat → Nat → Int32} {L : Nat → Nat → Int64} {n : Int32} {b : Int64} {i : Nat} (h : (((nI i) < n → ((am_ix I 91 0 60) ∧ (am_Run am_X0 (am_meth d) 15 R 42 [some (.ref 0), some (.int n), some (.long b), none, none, some (.int (nI (i + 1)))] [] (am_mk (am_ad I 91 92 (((((b : Int64).toUInt64 >>> ((8 * (nI i) : Int32).toInt64.toUInt64 &&& Int64.toUInt64 63)).toInt64 : Int64).toInt32) &&& 255)) L, 0, 0)))) ∧ (¬ (nI i) < n → (R (some (.int (I 91 0))) (am_mk I L, 0, 0))))) : am_Run am_X0 (am_meth d) 15 R 42 [some (.ref 0), some (.int n), some (.long b), none, none, some (.int (nI i))] [] (am_mk I L, 0, 0) := by
  refine ar_iload (q := 44) rfl rfl rfl ?_
  refine ar_iload_n (j := 1) (q := 45) rfl rfl rfl rfl ?_
  obtain ⟨hA, hB⟩ := h
  refine ar_br am_d_ge (t := 73) (q := 48) rfl rfl rfl (fun c_1 => ?_) (fun c_1 => ?_)
  · have h := hB c_1
    clear hA hB
    refine ar_aload_n (j := 0) (q := 74) rfl rfl rfl rfl ?_
    refine ar_getf (v := .ref 91) (q := 77) rfl rfl mk_0 rfl rfl ?_
    refine ar_getf (v := .int (I 91 0)) (q := 80) rfl rfl mk_91 rfl rfl ?_
    exact ar_iret rfl rfl h
  · have c_1 := Classical.not_not.mp c_1
    have h := hA c_1
    clear hA hB
    refine ar_aload_n (j := 0) (q := 49) rfl rfl rfl rfl ?_
    refine ar_getf (v := .ref 91) (q := 52) rfl rfl mk_0 rfl rfl ?_
    refine ar_lload_n (j := 2) (q := 53) rfl rfl rfl rfl ?_
    refine ar_bipush (v := 8) (q := 55) rfl rfl rfl ?_
    refine ar_iload (q := 57) rfl rfl rfl ?_
    refine ar_ib (i := .imul) (z := 8 * (nI i)) (q := 58) rfl rfl rfl rfl rfl ?_
    refine ar_st (i := .lushr) (n := 1) (st' := [.long (((b : Int64).toUInt64 >>> ((8 * (nI i) : Int32).toInt64.toUInt64 &&& Int64.toUInt64 63)).toInt64), .ref 91]) (q := 59) rfl rfl rfl rfl ?_
    refine ar_st (i := .l2i) (n := 1) (st' := [.int ((((b : Int64).toUInt64 >>> ((8 * (nI i) : Int32).toInt64.toUInt64 &&& Int64.toUInt64 63)).toInt64 : Int64).toInt32), .ref 91]) (q := 60) rfl rfl rfl rfl ?_
    refine ar_sipush (v := 255) (q := 63) rfl rfl rfl ?_
    refine ar_ib (i := .iand) (z := ((((b : Int64).toUInt64 >>> ((8 * (nI i) : Int32).toInt64.toUInt64 &&& Int64.toUInt64 63)).toInt64 : Int64).toInt32) &&& 255) (q := 64) rfl rfl rfl rfl rfl ?_
    refine ar_invv (as := [.int (((((b : Int64).toUInt64 >>> ((8 * (nI i) : Int32).toInt64.toUInt64 &&& Int64.toUInt64 63)).toInt64 : Int64).toInt32) &&& 255)]) (rest := []) (b2 := (0, 0)) (b3 := (0, 0)) (q := 67) rfl rfl rfl rfl mk_91 rfl rfl rfl rfl rfl ?_
    obtain ⟨hp_2, h⟩ := h
    refine ok_Ro_add_tape (by omega) hp_2 ?_
    show am_Run am_X0 (am_meth d) 15 R 67 [some (.ref 0), some (.int n), some (.long b), none, none, some (.int (nI i))] [] (am_mk (am_ad I 91 92 (((((b : Int64).toUInt64 >>> ((8 * (nI i) : Int32).toInt64.toUInt64 &&& Int64.toUInt64 63)).toInt64 : Int64).toInt32) &&& 255)) L, 0, 0)
    refine ar_iinc (v := nI (i + 1)) (ls' := [some (.ref 0), some (.int n), some (.long b), none, none, some (.int (nI (i + 1)))]) (q := 70) rfl rfl rfl (nI_1 _) rfl rfl ?_
    refine ar_goto (t := 42) rfl rfl ?_
    exact am_Run.weak (ls' := _) (by exact ⟨rfl, ⟨rfl, ⟨rfl, ⟨rfl, trivial⟩⟩⟩⟩) h
theorem r_M_feed_0 {d : Nat} (hd : 1 ≤ d) {R : am_R} {I : Nat → Nat → Int32} {L : Nat → Nat → Int64} {n : Int32} {b : Int64} (h : ((n < 1 → (R (some (.int (-4 : Int32))) (am_mk (am_no I 4) L, 0, 0))) ∧ (¬ n < 1 → (((n ≤ 8 → (((((I 113 24) + n) ≤ 60 → (am_Run am_X0 (am_meth d) 195 R 39 [some (.ref 113), some (.int n), some (.long b), none, some (.int 0)] [] (am_mk I L, 0, 0))) ∧ (¬ ((I 113 24) + n) ≤ 60 → (R (some (.int (-6 : Int32))) (am_mk (am_no I 6) L, 0, 0)))))) ∧ (¬ n ≤ 8 → (R (some (.int (-6 : Int32))) (am_mk (am_no I 6) L, 0, 0)))))))) : am_Run am_X0 (am_meth d) 195 R 0 [some (.ref 113), some (.int n), some (.long b), none, none] [] (am_mk I L, 0, 0) := by
  refine ar_iload_n (j := 1) (q := 1) rfl rfl rfl rfl ?_
  refine ar_iconst (v := 1) (q := 2) rfl rfl rfl ?_
  obtain ⟨hA, hB⟩ := h
  refine ar_br am_d_ge (t := 12) (q := 5) rfl rfl rfl (fun c_1 => ?_) (fun c_1 => ?_)
  · have h := hB c_1
    clear hA hB
    refine ar_iload_n (j := 1) (q := 13) rfl rfl rfl rfl ?_
    refine ar_bipush (v := 8) (q := 15) rfl rfl rfl ?_
    obtain ⟨hA, hB⟩ := h
    refine ar_br am_d_gt (t := 29) (q := 18) rfl rfl rfl (fun c_2 => ?_) (fun c_2 => ?_)
    · have h := hB c_2
      clear hA hB
      refine ar_aload_n (j := 0) (q := 30) rfl rfl rfl rfl ?_
      refine ar_bipush (v := (-6 : Int32)) (q := 32) rfl rfl rfl ?_
      refine ar_invv (as := [.int (-6 : Int32)]) (rest := []) (b2 := (0, 0)) (b3 := (0, 0)) (q := 35) rfl rfl rfl rfl mk_113 rfl rfl rfl rfl rfl ?_
      refine ok_no (j := 6) (by omega) (by decide) (by decide) ?_
      show am_Run am_X0 (am_meth d) 195 R 35 [some (.ref 113), some (.int n), some (.long b), none, none] [.int (-6 : Int32)] (am_mk (am_no I 6) L, 0, 0)
      exact ar_iret rfl rfl h
    · have c_2 := Classical.not_not.mp c_2
      have h := hA c_2
      clear hA hB
      refine ar_aload_n (j := 0) (q := 19) rfl rfl rfl rfl ?_
      refine ar_getf (v := .int (I 113 24)) (q := 22) rfl rfl mk_113 rfl rfl ?_
      refine ar_iload_n (j := 1) (q := 23) rfl rfl rfl rfl ?_
      refine ar_ib (i := .iadd) (z := (I 113 24) + n) (q := 24) rfl rfl rfl rfl rfl ?_
      refine ar_bipush (v := 60) (q := 26) rfl rfl rfl ?_
      obtain ⟨hA, hB⟩ := h
      refine ar_br am_c_le (t := 36) (q := 29) rfl rfl rfl (fun c_3 => ?_) (fun c_3 => ?_)
      · have h := hA c_3
        clear hA hB
        refine ar_iconst (v := 0) (q := 37) rfl rfl rfl ?_
        refine ar_istore (ls' := [some (.ref 113), some (.int n), some (.long b), none, some (.int 0)]) (q := 39) rfl rfl rfl rfl ?_
        exact am_Run.weak (ls' := _) (by exact ⟨rfl, ⟨rfl, ⟨rfl, ⟨rfl, trivial⟩⟩⟩⟩) h
      · have h := hB c_3
        clear hA hB
        refine ar_aload_n (j := 0) (q := 30) rfl rfl rfl rfl ?_
        refine ar_bipush (v := (-6 : Int32)) (q := 32) rfl rfl rfl ?_
        refine ar_invv (as := [.int (-6 : Int32)]) (rest := []) (b2 := (0, 0)) (b3 := (0, 0)) (q := 35) rfl rfl rfl rfl mk_113 rfl rfl rfl rfl rfl ?_
        refine ok_no (j := 6) (by omega) (by decide) (by decide) ?_
        show am_Run am_X0 (am_meth d) 195 R 35 [some (.ref 113), some (.int n), some (.long b), none, none] [.int (-6 : Int32)] (am_mk (am_no I 6) L, 0, 0)
        exact ar_iret rfl rfl h
  · have c_1 := Classical.not_not.mp c_1
    have h := hA c_1
    clear hA hB
    refine ar_aload_n (j := 0) (q := 6) rfl rfl rfl rfl ?_
    refine ar_bipush (v := (-4 : Int32)) (q := 8) rfl rfl rfl ?_
    refine ar_invv (as := [.int (-4 : Int32)]) (rest := []) (b2 := (0, 0)) (b3 := (0, 0)) (q := 11) rfl rfl rfl rfl mk_113 rfl rfl rfl rfl rfl ?_
    refine ok_no (j := 4) (by omega) (by decide) (by decide) ?_
    show am_Run am_X0 (am_meth d) 195 R 11 [some (.ref 113), some (.int n), some (.long b), none, none] [.int (-4 : Int32)] (am_mk (am_no I 4) L, 0, 0)
    exact ar_iret rfl rfl h
theorem r_M_feed_39 {d : Nat} {R : am_R} {I : Nat → Nat → Int32} {L : Nat → Nat → Int64} {n : Int32} {b : Int64} {i : Nat} (h : (((nI i) < n → (∃ j_2 : Nat, j_2 < 60 ∧ I 113 24 = nI j_2 ∧ (∀ I_5 : Nat → Nat → Int32, I_5 = va_up I 133 (upd (I 133) j_2 (vp_nar .byte (((b >>> ((8 * (nI i) : Int32).toInt64 &&& 63) : Int64).toInt32 : Int32).toInt8.toInt32))) → (∀ I_7 : Nat → Nat → Int32, I_7 = va_up I_5 113 (upd (I_5 113) 24 ((I_5 113 24) + 1)) → (am_Run am_X0 (am_meth d) 195 R 39 [some (.ref 113), some (.int n), some (.long b), none, some (.int (nI (i + 1)))] [] (am_mk I_7 L, 0, 0)))))) ∧ (¬ (nI i) < n → (R (some (.int (I 113 24))) (am_mk I L, 0, 0))))) : am_Run am_X0 (am_meth d) 195 R 39 [some (.ref 113), some (.int n), some (.long b), none, some (.int (nI i))] [] (am_mk I L, 0, 0) := by
  refine ar_iload (q := 41) rfl rfl rfl ?_
  refine ar_iload_n (j := 1) (q := 42) rfl rfl rfl rfl ?_
  obtain ⟨hA, hB⟩ := h
  refine ar_br am_d_ge (t := 79) (q := 45) rfl rfl rfl (fun c_1 => ?_) (fun c_1 => ?_)
  · have h := hB c_1
    clear hA hB
    refine ar_aload_n (j := 0) (q := 80) rfl rfl rfl rfl ?_
    refine ar_getf (v := .int (I 113 24)) (q := 83) rfl rfl mk_113 rfl rfl ?_
    exact ar_iret rfl rfl h
  · have c_1 := Classical.not_not.mp c_1
    have h := hA c_1
    clear hA hB
    refine ar_aload_n (j := 0) (q := 46) rfl rfl rfl rfl ?_
    refine ar_getf (v := .ref 133) (q := 49) rfl rfl mk_113 rfl rfl ?_
    refine ar_aload_n (j := 0) (q := 50) rfl rfl rfl rfl ?_
    refine ar_getf (v := .int (I 113 24)) (q := 53) rfl rfl mk_113 rfl rfl ?_
    refine ar_lload_n (j := 2) (q := 54) rfl rfl rfl rfl ?_
    refine ar_bipush (v := 8) (q := 56) rfl rfl rfl ?_
    refine ar_iload (q := 58) rfl rfl rfl ?_
    refine ar_ib (i := .imul) (z := 8 * (nI i)) (q := 59) rfl rfl rfl rfl rfl ?_
    refine ar_st (i := .lshr) (n := 1) (st' := [.long (b >>> ((8 * (nI i) : Int32).toInt64 &&& 63)), .int (I 113 24), .ref 133]) (q := 60) rfl rfl rfl rfl ?_
    refine ar_st (i := .l2i) (n := 1) (st' := [.int ((b >>> ((8 * (nI i) : Int32).toInt64 &&& 63) : Int64).toInt32), .int (I 113 24), .ref 133]) (q := 61) rfl rfl rfl rfl ?_
    refine ar_st (i := .i2b) (n := 1) (st' := [.int (((b >>> ((8 * (nI i) : Int32).toInt64 &&& 63) : Int64).toInt32 : Int32).toInt8.toInt32), .int (I 113 24), .ref 133]) (q := 62) rfl rfl rfl rfl ?_
    obtain ⟨j_2, hx_3, hi_4, h⟩ := h
    obtain ⟨I_5, hI_6⟩ : ∃ z : Nat → Nat → Int32, z = va_up I 133 (upd (I 133) j_2 (vp_nar .byte (((b >>> ((8 * (nI i) : Int32).toInt64 &&& 63) : Int64).toInt32 : Int32).toInt8.toInt32))) := ⟨_, rfl⟩
    have h := h I_5 hI_6
    refine ar_bast1 (hp2 := am_mk I_5 L) (q := 63) rfl mk_133 (am_inE hi_4 hx_3 (by decide)) (by rw [am_clT hi_4 hx_3 (by decide), hI_6]; exact mk_s133) rfl ?_
    refine ar_aload_n (j := 0) (q := 64) rfl rfl rfl rfl ?_
    refine ar_st (i := .dup) (n := 1) (st' := [.ref 113, .ref 113]) (q := 65) rfl rfl rfl rfl ?_
    refine ar_getf (v := .int (I_5 113 24)) (q := 68) rfl rfl mk_113 rfl rfl ?_
    refine ar_iconst (v := 1) (q := 69) rfl rfl rfl ?_
    refine ar_ib (i := .iadd) (z := (I_5 113 24) + 1) (q := 70) rfl rfl rfl rfl rfl ?_
    obtain ⟨I_7, hI_8⟩ : ∃ z : Nat → Nat → Int32, z = va_up I_5 113 (upd (I_5 113) 24 ((I_5 113 24) + 1)) := ⟨_, rfl⟩
    have h := h I_7 hI_8
    refine ar_putf (hp2 := am_mk I_7 L) (q := 73) rfl rfl mk_113 rfl (by rw [hI_8]; exact mk_p113_24) rfl ?_
    refine ar_iinc (v := nI (i + 1)) (ls' := [some (.ref 113), some (.int n), some (.long b), none, some (.int (nI (i + 1)))]) (q := 76) rfl rfl rfl (nI_1 _) rfl rfl ?_
    refine ar_goto (t := 39) rfl rfl ?_
    exact am_Run.weak (ls' := _) (by exact ⟨rfl, ⟨rfl, ⟨rfl, ⟨rfl, trivial⟩⟩⟩⟩) h
theorem r_Houses_priceOf_0 {d : Nat} {R : am_R} {I : Nat → Nat → Int32} {L : Nat → Nat → Int64} {ho : Nat} {x : Int32} (h : am_Run am_X0 (am_meth d) 51 R 5 [some (.ref 42), some (.int (nI ho)), some (.int x), some (.int 0), some (.int 0)] [] (am_mk I L, 0, 0)) : am_Run am_X0 (am_meth d) 51 R 0 [some (.ref 42), some (.int (nI ho)), some (.int x), none, none] [] (am_mk I L, 0, 0) := by
  refine ar_iconst (v := 0) (q := 1) rfl rfl rfl ?_
  refine ar_istore_n (j := 3) (ls' := [some (.ref 42), some (.int (nI ho)), some (.int x), some (.int 0), none]) (q := 2) rfl rfl rfl rfl rfl ?_
  refine ar_iconst (v := 0) (q := 3) rfl rfl rfl ?_
  refine ar_istore (ls' := [some (.ref 42), some (.int (nI ho)), some (.int x), some (.int 0), some (.int 0)]) (q := 5) rfl rfl rfl rfl ?_
  exact am_Run.weak (ls' := _) (by exact ⟨rfl, ⟨rfl, ⟨rfl, ⟨rfl, ⟨rfl, trivial⟩⟩⟩⟩⟩) h
theorem r_Houses_priceOf_5 {d : Nat} {R : am_R} {I : Nat → Nat → Int32} {L : Nat → Nat → Int64} {ho : Nat} {x : Int32} {sum : Int32} {i : Nat} (h : (((nI i) < 31 → (((((x >>> ((nI i) &&& 31)) &&& 1) = 1 → (ho < 20 ∧ (i < 31 ∧ (am_Run am_X0 (am_meth d) 51 R 5 [some (.ref 42), some (.int (nI ho)), some (.int x), some (.int (sum + (5 + (10 * (I (46 + ho) i))))), some (.int (nI (i + 1)))] [] (am_mk I L, 0, 0))))) ∧ (¬ ((x >>> ((nI i) &&& 31)) &&& 1) = 1 → (am_Run am_X0 (am_meth d) 51 R 5 [some (.ref 42), some (.int (nI ho)), some (.int x), some (.int sum), some (.int (nI (i + 1)))] [] (am_mk I L, 0, 0)))))) ∧ (¬ (nI i) < 31 → (R (some (.int sum)) (am_mk I L, 0, 0))))) : am_Run am_X0 (am_meth d) 51 R 5 [some (.ref 42), some (.int (nI ho)), some (.int x), some (.int sum), some (.int (nI i))] [] (am_mk I L, 0, 0) := by
  refine ar_iload (q := 7) rfl rfl rfl ?_
  refine ar_bipush (v := 31) (q := 9) rfl rfl rfl ?_
  obtain ⟨hA, hB⟩ := h
  refine ar_br am_d_ge (t := 45) (q := 12) rfl rfl rfl (fun c_1 => ?_) (fun c_1 => ?_)
  · have h := hB c_1
    clear hA hB
    refine ar_iload_n (j := 3) (q := 46) rfl rfl rfl rfl ?_
    exact ar_iret rfl rfl h
  · have c_1 := Classical.not_not.mp c_1
    have h := hA c_1
    clear hA hB
    refine ar_iload_n (j := 2) (q := 13) rfl rfl rfl rfl ?_
    refine ar_iload (q := 15) rfl rfl rfl ?_
    refine ar_ib (i := .ishr) (z := x >>> ((nI i) &&& 31)) (q := 16) rfl rfl rfl rfl rfl ?_
    refine ar_iconst (v := 1) (q := 17) rfl rfl rfl ?_
    refine ar_ib (i := .iand) (z := (x >>> ((nI i) &&& 31)) &&& 1) (q := 18) rfl rfl rfl rfl rfl ?_
    refine ar_iconst (v := 1) (q := 19) rfl rfl rfl ?_
    obtain ⟨hA, hB⟩ := h
    refine ar_br am_c_ne (t := 39) (q := 22) rfl rfl rfl (fun c_2 => ?_) (fun c_2 => ?_)
    · have h := hB c_2
      clear hA hB
      refine ar_iinc (v := nI (i + 1)) (ls' := [some (.ref 42), some (.int (nI ho)), some (.int x), some (.int sum), some (.int (nI (i + 1)))]) (q := 42) rfl rfl rfl (nI_1 _) rfl rfl ?_
      refine ar_goto (t := 5) rfl rfl ?_
      exact am_Run.weak (ls' := _) (by exact ⟨rfl, ⟨rfl, ⟨rfl, ⟨rfl, ⟨rfl, trivial⟩⟩⟩⟩⟩) h
    · have c_2 := Classical.not_not.mp c_2
      have h := hA c_2
      clear hA hB
      refine ar_iload_n (j := 3) (q := 23) rfl rfl rfl rfl ?_
      refine ar_iconst (v := 5) (q := 24) rfl rfl rfl ?_
      refine ar_bipush (v := 10) (q := 26) rfl rfl rfl ?_
      refine ar_aload_n (j := 0) (q := 27) rfl rfl rfl rfl ?_
      refine ar_getf (v := .ref 45) (q := 30) rfl rfl mk_42 rfl rfl ?_
      refine ar_iload_n (j := 1) (q := 31) rfl rfl rfl rfl ?_
      obtain ⟨hx_3, h⟩ := h
      refine ar_aald (c2 := 46 + ho) (q := 32) rfl mk_45 (am_inE rfl hx_3 (by decide)) (congrArg (fun z => some (46 + z)) (am_clT (n := 20) rfl hx_3 (by decide))) rfl ?_
      refine ar_iload (q := 34) rfl rfl rfl ?_
      obtain ⟨hx_4, h⟩ := h
      refine ar_iald (v := I (46 + ho) i) (q := 35) rfl (mk_g45 hx_3) (am_inE rfl hx_4 (by decide)) (am_clE rfl hx_4 (by decide)) rfl ?_
      refine ar_ib (i := .imul) (z := 10 * (I (46 + ho) i)) (q := 36) rfl rfl rfl rfl rfl ?_
      refine ar_ib (i := .iadd) (z := 5 + (10 * (I (46 + ho) i))) (q := 37) rfl rfl rfl rfl rfl ?_
      refine ar_ib (i := .iadd) (z := sum + (5 + (10 * (I (46 + ho) i)))) (q := 38) rfl rfl rfl rfl rfl ?_
      refine ar_istore_n (j := 3) (ls' := [some (.ref 42), some (.int (nI ho)), some (.int x), some (.int (sum + (5 + (10 * (I (46 + ho) i))))), some (.int (nI i))]) (q := 39) rfl rfl rfl rfl rfl ?_
      refine ar_iinc (v := nI (i + 1)) (ls' := [some (.ref 42), some (.int (nI ho)), some (.int x), some (.int (sum + (5 + (10 * (I (46 + ho) i))))), some (.int (nI (i + 1)))]) (q := 42) rfl rfl rfl (nI_1 _) rfl rfl ?_
      refine ar_goto (t := 5) rfl rfl ?_
      exact am_Run.weak (ls' := _) (by exact ⟨rfl, ⟨rfl, ⟨rfl, ⟨rfl, ⟨rfl, trivial⟩⟩⟩⟩⟩) h
theorem r_H_claim_0 {d : Nat} (hd : 1 ≤ d) {R : am_R} {I : Nat → Nat → Int32} {L : Nat → Nat → Int64} {s : Int32} (h : ((0 ≤ s ∧ s < I 66 1 → (∃ j_2 : Nat, s = nI j_2 ∧ ((j_2 < 60) ∧ (((¬ I 72 j_2 = -1 ∧ ¬ I 73 j_2 = -1 → (∃ j_6 : Nat, j_6 < 60 ∧ s = nI j_6 ∧ ((j_6 < 60) ∧ (am_meth d 51 [.ref 42, .int (I 67 j_6), .int (I 72 j_6 &&& (I 73 j_6 ^^^ -1))] (am_mk I L, 0, 0) (am_ri (fun z_10 I_11 L_12 => R (some (.int z_10)) (am_mk I_11 L_12, 0, 0))))))) ∧ (¬ (¬ I 72 j_2 = -1 ∧ ¬ I 73 j_2 = -1) → (R (some (.int (-3 : Int32))) (am_mk (am_rf I 3) L, 0, 0)))))))) ∧ (¬ (0 ≤ s ∧ s < I 66 1) → (R (some (.int (-1 : Int32))) (am_mk (am_rf I 1) L, 0, 0))))) : am_Run am_X0 (am_meth d) 41 R 0 [some (.ref 0), some (.int s)] [] (am_mk I L, 0, 0) := by
  refine ar_aload_n (j := 0) (q := 1) rfl rfl rfl rfl ?_
  refine ar_getf (v := .ref 66) (q := 4) rfl rfl mk_0 rfl rfl ?_
  refine ar_iload_n (j := 1) (q := 5) rfl rfl rfl rfl ?_
  refine ar_invv (as := [.int s]) (rest := []) (b2 := (0, 0)) (b3 := (0, 0)) (q := 8) rfl rfl rfl rfl mk_66 rfl rfl rfl rfl rfl ?_
  obtain ⟨hA, hB⟩ := h
  refine ok_St_has (by omega)  (fun c_1 => ?_) (fun c_1 => ?_)
  · have h := hA c_1
    clear hA hB
    show am_Run am_X0 (am_meth d) 41 R 8 [some (.ref 0), some (.int s)] [.int 1] (am_mk I L, 0, 0)
    refine ar_b0 am_c_ne (t := 17) (q := 11) rfl rfl rfl (fun _ => ?_) (fun c9 => absurd (by decide) c9)
    refine ar_aload_n (j := 0) (q := 18) rfl rfl rfl rfl ?_
    refine ar_getf (v := .ref 66) (q := 21) rfl rfl mk_0 rfl rfl ?_
    refine ar_iload_n (j := 1) (q := 22) rfl rfl rfl rfl ?_
    refine ar_invv (as := [.int s]) (rest := []) (b2 := (0, 0)) (b3 := (0, 0)) (q := 25) rfl rfl rfl rfl mk_66 rfl rfl rfl rfl rfl ?_
    obtain ⟨j_2, hi_3, h⟩ := h
    obtain ⟨hp_5, h⟩ := h
    obtain ⟨hA, hB⟩ := h
    refine ok_St_hasBothLists (by omega) hi_3 hp_5 (fun c_4 => ?_) (fun c_4 => ?_)
    · have h := hA c_4
      clear hA hB
      show am_Run am_X0 (am_meth d) 41 R 25 [some (.ref 0), some (.int s)] [.int 1] (am_mk I L, 0, 0)
      refine ar_b0 am_c_ne (t := 35) (q := 28) rfl rfl rfl (fun _ => ?_) (fun c9 => absurd (by decide) c9)
      refine ar_aload_n (j := 0) (q := 36) rfl rfl rfl rfl ?_
      refine ar_getf (v := .ref 42) (q := 39) rfl rfl mk_0 rfl rfl ?_
      refine ar_aload_n (j := 0) (q := 40) rfl rfl rfl rfl ?_
      refine ar_getf (v := .ref 66) (q := 43) rfl rfl mk_0 rfl rfl ?_
      refine ar_getf (v := .ref 67) (q := 46) rfl rfl mk_66 rfl rfl ?_
      refine ar_iload_n (j := 1) (q := 47) rfl rfl rfl rfl ?_
      obtain ⟨j_6, hx_7, hi_8, h⟩ := h
      refine ar_iald (v := I 67 j_6) (q := 48) rfl mk_67 (am_inE hi_8 hx_7 (by decide)) (am_clE hi_8 hx_7 (by decide)) rfl ?_
      refine ar_aload_n (j := 0) (q := 49) rfl rfl rfl rfl ?_
      refine ar_getf (v := .ref 66) (q := 52) rfl rfl mk_0 rfl rfl ?_
      refine ar_iload_n (j := 1) (q := 53) rfl rfl rfl rfl ?_
      refine ar_invv (as := [.int s]) (rest := [.int (I 67 j_6), .ref 42]) (b2 := (0, 0)) (b3 := (0, 0)) (q := 56) rfl rfl rfl rfl mk_66 rfl rfl rfl rfl rfl ?_
      obtain ⟨hp_9, h⟩ := h
      refine ok_St_itemsGone (by omega) hi_8 hp_9 ?_
      show am_Run am_X0 (am_meth d) 41 R 56 [some (.ref 0), some (.int s)] [.int (I 72 j_6 &&& (I 73 j_6 ^^^ -1)), .int (I 67 j_6), .ref 42] (am_mk I L, 0, 0)
      refine ar_invv (as := [.int (I 67 j_6), .int (I 72 j_6 &&& (I 73 j_6 ^^^ -1))]) (rest := []) (b2 := (0, 0)) (b3 := (0, 0)) (q := 59) rfl rfl rfl rfl mk_42 rfl rfl rfl rfl rfl ?_
      refine am_meth_mono d _ _ _ _ _ (fun v9 m9 h9 => ?_) h
      obtain ⟨z_10, I_11, L_12, rfl, rfl, h⟩ := h9
      show am_Run am_X0 (am_meth d) 41 R 59 [some (.ref 0), some (.int s)] [.int z_10] (am_mk I_11 L_12, 0, 0)
      exact ar_iret rfl rfl h
    · have h := hB c_4
      clear hA hB
      show am_Run am_X0 (am_meth d) 41 R 25 [some (.ref 0), some (.int s)] [.int 0] (am_mk I L, 0, 0)
      refine ar_b0 am_c_ne (t := 35) (q := 28) rfl rfl rfl (fun c9 => absurd (by decide) c9) (fun _ => ?_)
      refine ar_aload_n (j := 0) (q := 29) rfl rfl rfl rfl ?_
      refine ar_bipush (v := (-3 : Int32)) (q := 31) rfl rfl rfl ?_
      refine ar_invv (as := [.int (-3 : Int32)]) (rest := []) (b2 := (0, 0)) (b3 := (0, 0)) (q := 34) rfl rfl rfl rfl mk_0 rfl rfl rfl rfl rfl ?_
      refine ok_refuse (j := 3) (by omega) (by decide) (by decide) ?_
      show am_Run am_X0 (am_meth d) 41 R 34 [some (.ref 0), some (.int s)] [.int (-3 : Int32)] (am_mk (am_rf I 3) L, 0, 0)
      exact ar_iret rfl rfl h
  · have h := hB c_1
    clear hA hB
    show am_Run am_X0 (am_meth d) 41 R 8 [some (.ref 0), some (.int s)] [.int 0] (am_mk I L, 0, 0)
    refine ar_b0 am_c_ne (t := 17) (q := 11) rfl rfl rfl (fun c9 => absurd (by decide) c9) (fun _ => ?_)
    refine ar_aload_n (j := 0) (q := 12) rfl rfl rfl rfl ?_
    refine ar_iconst (v := (-1 : Int32)) (q := 13) rfl rfl rfl ?_
    refine ar_invv (as := [.int (-1 : Int32)]) (rest := []) (b2 := (0, 0)) (b3 := (0, 0)) (q := 16) rfl rfl rfl rfl mk_0 rfl rfl rfl rfl rfl ?_
    refine ok_refuse (j := 1) (by omega) (by decide) (by decide) ?_
    show am_Run am_X0 (am_meth d) 41 R 16 [some (.ref 0), some (.int s)] [.int (-1 : Int32)] (am_mk (am_rf I 1) L, 0, 0)
    exact ar_iret rfl rfl h
theorem r_M_claim_0 {d : Nat} (hd : 1 ≤ d) {R : am_R} {I : Nat → Nat → Int32} {L : Nat → Nat → Int64} {s : Int32} (h : ((0 ≤ s ∧ s < I 113 14 → (∃ j_2 : Nat, s = nI j_2 ∧ ((j_2 < 60) ∧ ((((I 132 (2 * j_2) < 0 ∨ I 132 (2 * j_2 + 1) < 0) → (R (some (.int (-3 : Int32))) (am_mk (am_no I 3) L, 0, 0))) ∧ (¬ (I 132 (2 * j_2) < 0 ∨ I 132 (2 * j_2 + 1) < 0) → ((((I 132 (2 * j_2) &&& (I 132 (2 * j_2 + 1) ^^^ -1)) < 0 → (R (some (.int (-3 : Int32))) (am_mk (am_no I 3) L, 0, 0))) ∧ (¬ (I 132 (2 * j_2) &&& (I 132 (2 * j_2 + 1) ^^^ -1)) < 0 → (am_Run am_X0 (am_meth d) 238 R 36 [some (.ref 113), some (.int s), some (.int (I 132 (2 * j_2) &&& (I 132 (2 * j_2 + 1) ^^^ -1))), some (.int 0), some (.int 0)] [] (am_mk I L, 0, 0))))))))))) ∧ (¬ (0 ≤ s ∧ s < I 113 14) → (R (some (.int (-1 : Int32))) (am_mk (am_no I 1) L, 0, 0))))) : am_Run am_X0 (am_meth d) 238 R 0 [some (.ref 113), some (.int s), none, none, none] [] (am_mk I L, 0, 0) := by
  refine ar_aload_n (j := 0) (q := 1) rfl rfl rfl rfl ?_
  refine ar_iload_n (j := 1) (q := 2) rfl rfl rfl rfl ?_
  refine ar_invv (as := [.int s]) (rest := []) (b2 := (0, 0)) (b3 := (0, 0)) (q := 5) rfl rfl rfl rfl mk_113 rfl rfl rfl rfl rfl ?_
  obtain ⟨hA, hB⟩ := h
  refine ok_M_isStay (by omega)  (fun c_1 => ?_) (fun c_1 => ?_)
  · have h := hA c_1
    clear hA hB
    show am_Run am_X0 (am_meth d) 238 R 5 [some (.ref 113), some (.int s), none, none, none] [.int 1] (am_mk I L, 0, 0)
    refine ar_b0 am_c_ne (t := 14) (q := 8) rfl rfl rfl (fun _ => ?_) (fun c9 => absurd (by decide) c9)
    refine ar_aload_n (j := 0) (q := 15) rfl rfl rfl rfl ?_
    refine ar_iload_n (j := 1) (q := 16) rfl rfl rfl rfl ?_
    refine ar_invv (as := [.int s]) (rest := []) (b2 := (0, 0)) (b3 := (0, 0)) (q := 19) rfl rfl rfl rfl mk_113 rfl rfl rfl rfl rfl ?_
    obtain ⟨j_2, hi_3, h⟩ := h
    obtain ⟨hp_4, h⟩ := h
    obtain ⟨hC0, hC1⟩ := h
    refine ok_M_goneOf (by omega) hi_3 hp_4 (fun c_5 => ?_) (fun c_5 => ?_)
    · have h := hC0 c_5
      clear hC0 hC1
      show am_Run am_X0 (am_meth d) 238 R 19 [some (.ref 113), some (.int s), none, none, none] [.int (-9 : Int32)] (am_mk I L, 0, 0)
      refine ar_istore_n (j := 2) (ls' := [some (.ref 113), some (.int s), some (.int (-9 : Int32)), none, none]) (q := 20) rfl rfl rfl rfl rfl ?_
      refine ar_iload_n (j := 2) (q := 21) rfl rfl rfl rfl ?_
      refine ar_b0 am_d_ge (t := 31) (q := 24) rfl rfl rfl (fun c9 => absurd (by decide) c9) (fun _ => ?_)
      refine ar_aload_n (j := 0) (q := 25) rfl rfl rfl rfl ?_
      refine ar_bipush (v := (-3 : Int32)) (q := 27) rfl rfl rfl ?_
      refine ar_invv (as := [.int (-3 : Int32)]) (rest := []) (b2 := (0, 0)) (b3 := (0, 0)) (q := 30) rfl rfl rfl rfl mk_113 rfl rfl rfl rfl rfl ?_
      refine ok_no (j := 3) (by omega) (by decide) (by decide) ?_
      show am_Run am_X0 (am_meth d) 238 R 30 [some (.ref 113), some (.int s), some (.int (-9 : Int32)), none, none] [.int (-3 : Int32)] (am_mk (am_no I 3) L, 0, 0)
      exact ar_iret rfl rfl h
    · have h := hC1 c_5
      clear hC0 hC1
      show am_Run am_X0 (am_meth d) 238 R 19 [some (.ref 113), some (.int s), none, none, none] [.int (I 132 (2 * j_2) &&& (I 132 (2 * j_2 + 1) ^^^ -1))] (am_mk I L, 0, 0)
      refine ar_istore_n (j := 2) (ls' := [some (.ref 113), some (.int s), some (.int (I 132 (2 * j_2) &&& (I 132 (2 * j_2 + 1) ^^^ -1))), none, none]) (q := 20) rfl rfl rfl rfl rfl ?_
      refine ar_iload_n (j := 2) (q := 21) rfl rfl rfl rfl ?_
      obtain ⟨hA, hB⟩ := h
      refine ar_b0 am_d_ge (t := 31) (q := 24) rfl rfl rfl (fun c_6 => ?_) (fun c_6 => ?_)
      · have h := hB c_6
        clear hA hB
        refine ar_iconst (v := 0) (q := 32) rfl rfl rfl ?_
        refine ar_istore_n (j := 3) (ls' := [some (.ref 113), some (.int s), some (.int (I 132 (2 * j_2) &&& (I 132 (2 * j_2 + 1) ^^^ -1))), some (.int 0), none]) (q := 33) rfl rfl rfl rfl rfl ?_
        refine ar_iconst (v := 0) (q := 34) rfl rfl rfl ?_
        refine ar_istore (ls' := [some (.ref 113), some (.int s), some (.int (I 132 (2 * j_2) &&& (I 132 (2 * j_2 + 1) ^^^ -1))), some (.int 0), some (.int 0)]) (q := 36) rfl rfl rfl rfl ?_
        exact am_Run.weak (ls' := _) (by exact ⟨rfl, ⟨rfl, ⟨rfl, ⟨rfl, ⟨rfl, trivial⟩⟩⟩⟩⟩) h
      · have c_6 := Classical.not_not.mp c_6
        have h := hA c_6
        clear hA hB
        refine ar_aload_n (j := 0) (q := 25) rfl rfl rfl rfl ?_
        refine ar_bipush (v := (-3 : Int32)) (q := 27) rfl rfl rfl ?_
        refine ar_invv (as := [.int (-3 : Int32)]) (rest := []) (b2 := (0, 0)) (b3 := (0, 0)) (q := 30) rfl rfl rfl rfl mk_113 rfl rfl rfl rfl rfl ?_
        refine ok_no (j := 3) (by omega) (by decide) (by decide) ?_
        show am_Run am_X0 (am_meth d) 238 R 30 [some (.ref 113), some (.int s), some (.int (I 132 (2 * j_2) &&& (I 132 (2 * j_2 + 1) ^^^ -1))), none, none] [.int (-3 : Int32)] (am_mk (am_no I 3) L, 0, 0)
        exact ar_iret rfl rfl h
  · have h := hB c_1
    clear hA hB
    show am_Run am_X0 (am_meth d) 238 R 5 [some (.ref 113), some (.int s), none, none, none] [.int 0] (am_mk I L, 0, 0)
    refine ar_b0 am_c_ne (t := 14) (q := 8) rfl rfl rfl (fun c9 => absurd (by decide) c9) (fun _ => ?_)
    refine ar_aload_n (j := 0) (q := 9) rfl rfl rfl rfl ?_
    refine ar_iconst (v := (-1 : Int32)) (q := 10) rfl rfl rfl ?_
    refine ar_invv (as := [.int (-1 : Int32)]) (rest := []) (b2 := (0, 0)) (b3 := (0, 0)) (q := 13) rfl rfl rfl rfl mk_113 rfl rfl rfl rfl rfl ?_
    refine ok_no (j := 1) (by omega) (by decide) (by decide) ?_
    show am_Run am_X0 (am_meth d) 238 R 13 [some (.ref 113), some (.int s), none, none, none] [.int (-1 : Int32)] (am_mk (am_no I 1) L, 0, 0)
    exact ar_iret rfl rfl h
theorem r_M_claim_36 {d : Nat} {R : am_R} {I : Nat → Nat → Int32} {L : Nat → Nat → Int64} {s : Nat} {x : Int32} {sum : Int32} {i : Nat} (h : (((nI i) < 31 → (((((x >>> ((nI i) &&& 31)) &&& 1) = 1 → (s < 60 ∧ (∃ j_4 : Nat, j_4 < 620 ∧ ((I 125 s) * 31) + (nI i) = nI j_4 ∧ (am_Run am_X0 (am_meth d) 238 R 36 [some (.ref 113), some (.int (nI s)), some (.int x), some (.int (sum + (5 + (10 * (I 124 j_4))))), some (.int (nI (i + 1)))] [] (am_mk I L, 0, 0))))) ∧ (¬ ((x >>> ((nI i) &&& 31)) &&& 1) = 1 → (am_Run am_X0 (am_meth d) 238 R 36 [some (.ref 113), some (.int (nI s)), some (.int x), some (.int sum), some (.int (nI (i + 1)))] [] (am_mk I L, 0, 0)))))) ∧ (¬ (nI i) < 31 → (R (some (.int sum)) (am_mk I L, 0, 0))))) : am_Run am_X0 (am_meth d) 238 R 36 [some (.ref 113), some (.int (nI s)), some (.int x), some (.int sum), some (.int (nI i))] [] (am_mk I L, 0, 0) := by
  refine ar_iload (q := 38) rfl rfl rfl ?_
  refine ar_bipush (v := 31) (q := 40) rfl rfl rfl ?_
  obtain ⟨hA, hB⟩ := h
  refine ar_br am_d_ge (t := 84) (q := 43) rfl rfl rfl (fun c_1 => ?_) (fun c_1 => ?_)
  · have h := hB c_1
    clear hA hB
    refine ar_iload_n (j := 3) (q := 85) rfl rfl rfl rfl ?_
    exact ar_iret rfl rfl h
  · have c_1 := Classical.not_not.mp c_1
    have h := hA c_1
    clear hA hB
    refine ar_iload_n (j := 2) (q := 44) rfl rfl rfl rfl ?_
    refine ar_iload (q := 46) rfl rfl rfl ?_
    refine ar_ib (i := .ishr) (z := x >>> ((nI i) &&& 31)) (q := 47) rfl rfl rfl rfl rfl ?_
    refine ar_iconst (v := 1) (q := 48) rfl rfl rfl ?_
    refine ar_ib (i := .iand) (z := (x >>> ((nI i) &&& 31)) &&& 1) (q := 49) rfl rfl rfl rfl rfl ?_
    refine ar_iconst (v := 1) (q := 50) rfl rfl rfl ?_
    obtain ⟨hA, hB⟩ := h
    refine ar_br am_c_ne (t := 78) (q := 53) rfl rfl rfl (fun c_2 => ?_) (fun c_2 => ?_)
    · have h := hB c_2
      clear hA hB
      refine ar_iinc (v := nI (i + 1)) (ls' := [some (.ref 113), some (.int (nI s)), some (.int x), some (.int sum), some (.int (nI (i + 1)))]) (q := 81) rfl rfl rfl (nI_1 _) rfl rfl ?_
      refine ar_goto (t := 36) rfl rfl ?_
      exact am_Run.weak (ls' := _) (by exact ⟨rfl, ⟨rfl, ⟨rfl, ⟨rfl, ⟨rfl, trivial⟩⟩⟩⟩⟩) h
    · have c_2 := Classical.not_not.mp c_2
      have h := hA c_2
      clear hA hB
      refine ar_iload_n (j := 3) (q := 54) rfl rfl rfl rfl ?_
      refine ar_iconst (v := 5) (q := 55) rfl rfl rfl ?_
      refine ar_bipush (v := 10) (q := 57) rfl rfl rfl ?_
      refine ar_aload_n (j := 0) (q := 58) rfl rfl rfl rfl ?_
      refine ar_getf (v := .ref 124) (q := 61) rfl rfl mk_113 rfl rfl ?_
      refine ar_aload_n (j := 0) (q := 62) rfl rfl rfl rfl ?_
      refine ar_getf (v := .ref 125) (q := 65) rfl rfl mk_113 rfl rfl ?_
      refine ar_iload_n (j := 1) (q := 66) rfl rfl rfl rfl ?_
      obtain ⟨hx_3, h⟩ := h
      refine ar_iald (v := I 125 s) (q := 67) rfl mk_125 (am_inE rfl hx_3 (by decide)) (am_clE rfl hx_3 (by decide)) rfl ?_
      refine ar_bipush (v := 31) (q := 69) rfl rfl rfl ?_
      refine ar_ib (i := .imul) (z := (I 125 s) * 31) (q := 70) rfl rfl rfl rfl rfl ?_
      refine ar_iload (q := 72) rfl rfl rfl ?_
      refine ar_ib (i := .iadd) (z := ((I 125 s) * 31) + (nI i)) (q := 73) rfl rfl rfl rfl rfl ?_
      obtain ⟨j_4, hx_5, hi_6, h⟩ := h
      refine ar_iald (v := I 124 j_4) (q := 74) rfl mk_124 (am_inE hi_6 hx_5 (by decide)) (am_clE hi_6 hx_5 (by decide)) rfl ?_
      refine ar_ib (i := .imul) (z := 10 * (I 124 j_4)) (q := 75) rfl rfl rfl rfl rfl ?_
      refine ar_ib (i := .iadd) (z := 5 + (10 * (I 124 j_4))) (q := 76) rfl rfl rfl rfl rfl ?_
      refine ar_ib (i := .iadd) (z := sum + (5 + (10 * (I 124 j_4)))) (q := 77) rfl rfl rfl rfl rfl ?_
      refine ar_istore_n (j := 3) (ls' := [some (.ref 113), some (.int (nI s)), some (.int x), some (.int (sum + (5 + (10 * (I 124 j_4))))), some (.int (nI i))]) (q := 78) rfl rfl rfl rfl rfl ?_
      refine ar_iinc (v := nI (i + 1)) (ls' := [some (.ref 113), some (.int (nI s)), some (.int x), some (.int (sum + (5 + (10 * (I 124 j_4))))), some (.int (nI (i + 1)))]) (q := 81) rfl rfl rfl (nI_1 _) rfl rfl ?_
      refine ar_goto (t := 36) rfl rfl ?_
      exact am_Run.weak (ls' := _) (by exact ⟨rfl, ⟨rfl, ⟨rfl, ⟨rfl, ⟨rfl, trivial⟩⟩⟩⟩⟩) h
theorem r_Stays_howMany_0 {d : Nat} {R : am_R} {I : Nat → Nat → Int32} {L : Nat → Nat → Int64} {x : Int32} (h : am_Run am_X0 (am_meth d) 124 R 4 [some (.ref 66), some (.int x), some (.int 0), some (.int 0)] [] (am_mk I L, 0, 0)) : am_Run am_X0 (am_meth d) 124 R 0 [some (.ref 66), some (.int x), none, none] [] (am_mk I L, 0, 0) := by
  refine ar_iconst (v := 0) (q := 1) rfl rfl rfl ?_
  refine ar_istore_n (j := 2) (ls' := [some (.ref 66), some (.int x), some (.int 0), none]) (q := 2) rfl rfl rfl rfl rfl ?_
  refine ar_iconst (v := 0) (q := 3) rfl rfl rfl ?_
  refine ar_istore_n (j := 3) (ls' := [some (.ref 66), some (.int x), some (.int 0), some (.int 0)]) (q := 4) rfl rfl rfl rfl rfl ?_
  exact am_Run.weak (ls' := _) (by exact ⟨rfl, ⟨rfl, ⟨rfl, ⟨rfl, trivial⟩⟩⟩⟩) h
theorem r_Stays_howMany_4 {d : Nat} {R : am_R} {I : Nat → Nat → Int32} {L : Nat → Nat → Int64} {x : Int32} {sum : Int32} {s : Nat} (h : (((nI s) < (I 66 1) → (s < 60 ∧ ((((I 70 s) = x → (am_Run am_X0 (am_meth d) 124 R 4 [some (.ref 66), some (.int x), some (.int (sum + 1)), some (.int (nI (s + 1)))] [] (am_mk I L, 0, 0))) ∧ (¬ (I 70 s) = x → (am_Run am_X0 (am_meth d) 124 R 4 [some (.ref 66), some (.int x), some (.int sum), some (.int (nI (s + 1)))] [] (am_mk I L, 0, 0))))))) ∧ (¬ (nI s) < (I 66 1) → (R (some (.int sum)) (am_mk I L, 0, 0))))) : am_Run am_X0 (am_meth d) 124 R 4 [some (.ref 66), some (.int x), some (.int sum), some (.int (nI s))] [] (am_mk I L, 0, 0) := by
  refine ar_iload_n (j := 3) (q := 5) rfl rfl rfl rfl ?_
  refine ar_aload_n (j := 0) (q := 6) rfl rfl rfl rfl ?_
  refine ar_getf (v := .int (I 66 1)) (q := 9) rfl rfl mk_66 rfl rfl ?_
  obtain ⟨hA, hB⟩ := h
  refine ar_br am_d_ge (t := 31) (q := 12) rfl rfl rfl (fun c_1 => ?_) (fun c_1 => ?_)
  · have h := hB c_1
    clear hA hB
    refine ar_iload_n (j := 2) (q := 32) rfl rfl rfl rfl ?_
    exact ar_iret rfl rfl h
  · have c_1 := Classical.not_not.mp c_1
    have h := hA c_1
    clear hA hB
    refine ar_aload_n (j := 0) (q := 13) rfl rfl rfl rfl ?_
    refine ar_getf (v := .ref 70) (q := 16) rfl rfl mk_66 rfl rfl ?_
    refine ar_iload_n (j := 3) (q := 17) rfl rfl rfl rfl ?_
    obtain ⟨hx_2, h⟩ := h
    refine ar_iald (v := I 70 s) (q := 18) rfl mk_70 (am_inE rfl hx_2 (by decide)) (am_clE rfl hx_2 (by decide)) rfl ?_
    refine ar_iload_n (j := 1) (q := 19) rfl rfl rfl rfl ?_
    obtain ⟨hA, hB⟩ := h
    refine ar_br am_c_ne (t := 25) (q := 22) rfl rfl rfl (fun c_3 => ?_) (fun c_3 => ?_)
    · have h := hB c_3
      clear hA hB
      refine ar_iinc (v := nI (s + 1)) (ls' := [some (.ref 66), some (.int x), some (.int sum), some (.int (nI (s + 1)))]) (q := 28) rfl rfl rfl (nI_1 _) rfl rfl ?_
      refine ar_goto (t := 4) rfl rfl ?_
      exact am_Run.weak (ls' := _) (by exact ⟨rfl, ⟨rfl, ⟨rfl, ⟨rfl, trivial⟩⟩⟩⟩) h
    · have c_3 := Classical.not_not.mp c_3
      have h := hA c_3
      clear hA hB
      refine ar_iinc (v := sum + 1) (ls' := [some (.ref 66), some (.int x), some (.int (sum + 1)), some (.int (nI s))]) (q := 25) rfl rfl rfl rfl rfl rfl ?_
      refine ar_iinc (v := nI (s + 1)) (ls' := [some (.ref 66), some (.int x), some (.int (sum + 1)), some (.int (nI (s + 1)))]) (q := 28) rfl rfl rfl (nI_1 _) rfl rfl ?_
      refine ar_goto (t := 4) rfl rfl ?_
      exact am_Run.weak (ls' := _) (by exact ⟨rfl, ⟨rfl, ⟨rfl, ⟨rfl, trivial⟩⟩⟩⟩) h
theorem r_Reviews_countingOn_0 {d : Nat} {R : am_R} {I : Nat → Nat → Int32} {L : Nat → Nat → Int64} {k : Int32} (h : am_Run am_X0 (am_meth d) 84 R 4 [some (.ref 74), some (.int k), some (.int 0), some (.int 0)] [] (am_mk I L, 0, 0)) : am_Run am_X0 (am_meth d) 84 R 0 [some (.ref 74), some (.int k), none, none] [] (am_mk I L, 0, 0) := by
  refine ar_iconst (v := 0) (q := 1) rfl rfl rfl ?_
  refine ar_istore_n (j := 2) (ls' := [some (.ref 74), some (.int k), some (.int 0), none]) (q := 2) rfl rfl rfl rfl rfl ?_
  refine ar_iconst (v := 0) (q := 3) rfl rfl rfl ?_
  refine ar_istore_n (j := 3) (ls' := [some (.ref 74), some (.int k), some (.int 0), some (.int 0)]) (q := 4) rfl rfl rfl rfl rfl ?_
  exact am_Run.weak (ls' := _) (by exact ⟨rfl, ⟨rfl, ⟨rfl, ⟨rfl, trivial⟩⟩⟩⟩) h
theorem r_Reviews_countingOn_4 {d : Nat} (hd : 1 ≤ d) {R : am_R} {I : Nat → Nat → Int32} {L : Nat → Nat → Int64} {k : Int32} {sum : Int32} {s : Nat} (h : (((nI s) < (I 66 1) → ((s < 60) ∧ (((am_cg I 82 83 s k → ((s < 60) ∧ (((am_cg I 83 82 s k → (am_Run am_X0 (am_meth d) 84 R 4 [some (.ref 74), some (.int k), some (.int ((sum + 1) + 1)), some (.int (nI (s + 1)))] [] (am_mk I L, 0, 0))) ∧ (¬ (am_cg I 83 82 s k) → (am_Run am_X0 (am_meth d) 84 R 4 [some (.ref 74), some (.int k), some (.int (sum + 1)), some (.int (nI (s + 1)))] [] (am_mk I L, 0, 0))))))) ∧ (¬ (am_cg I 82 83 s k) → ((s < 60) ∧ (((am_cg I 83 82 s k → (am_Run am_X0 (am_meth d) 84 R 4 [some (.ref 74), some (.int k), some (.int (sum + 1)), some (.int (nI (s + 1)))] [] (am_mk I L, 0, 0))) ∧ (¬ (am_cg I 83 82 s k) → (am_Run am_X0 (am_meth d) 84 R 4 [some (.ref 74), some (.int k), some (.int sum), some (.int (nI (s + 1)))] [] (am_mk I L, 0, 0))))))))))) ∧ (¬ (nI s) < (I 66 1) → (R (some (.int sum)) (am_mk I L, 0, 0))))) : am_Run am_X0 (am_meth d) 84 R 4 [some (.ref 74), some (.int k), some (.int sum), some (.int (nI s))] [] (am_mk I L, 0, 0) := by
  refine ar_iload_n (j := 3) (q := 5) rfl rfl rfl rfl ?_
  refine ar_aload_n (j := 0) (q := 6) rfl rfl rfl rfl ?_
  refine ar_getf (v := .ref 66) (q := 9) rfl rfl mk_74 rfl rfl ?_
  refine ar_getf (v := .int (I 66 1)) (q := 12) rfl rfl mk_66 rfl rfl ?_
  obtain ⟨hA, hB⟩ := h
  refine ar_br am_d_ge (t := 47) (q := 15) rfl rfl rfl (fun c_1 => ?_) (fun c_1 => ?_)
  · have h := hB c_1
    clear hA hB
    refine ar_iload_n (j := 2) (q := 48) rfl rfl rfl rfl ?_
    exact ar_iret rfl rfl h
  · have c_1 := Classical.not_not.mp c_1
    have h := hA c_1
    clear hA hB
    refine ar_aload_n (j := 0) (q := 16) rfl rfl rfl rfl ?_
    refine ar_iconst (v := 0) (q := 17) rfl rfl rfl ?_
    refine ar_iload_n (j := 3) (q := 18) rfl rfl rfl rfl ?_
    refine ar_iload_n (j := 1) (q := 19) rfl rfl rfl rfl ?_
    refine ar_invv (as := [.int 0, .int (nI s), .int k]) (rest := []) (b2 := (0, 0)) (b3 := (0, 0)) (q := 22) rfl rfl rfl rfl mk_74 rfl rfl rfl rfl rfl ?_
    obtain ⟨hp_3, h⟩ := h
    obtain ⟨hA, hB⟩ := h
    refine ok_Re_isCounting0 (by omega) rfl hp_3 (fun c_2 => ?_) (fun c_2 => ?_)
    · have h := hA c_2
      clear hA hB
      show am_Run am_X0 (am_meth d) 84 R 22 [some (.ref 74), some (.int k), some (.int sum), some (.int (nI s))] [.int 1] (am_mk I L, 0, 0)
      refine ar_b0 am_c_eq (t := 28) (q := 25) rfl rfl rfl (fun c9 => absurd c9 (by decide)) (fun _ => ?_)
      refine ar_iinc (v := sum + 1) (ls' := [some (.ref 74), some (.int k), some (.int (sum + 1)), some (.int (nI s))]) (q := 28) rfl rfl rfl rfl rfl rfl ?_
      refine ar_aload_n (j := 0) (q := 29) rfl rfl rfl rfl ?_
      refine ar_iconst (v := 1) (q := 30) rfl rfl rfl ?_
      refine ar_iload_n (j := 3) (q := 31) rfl rfl rfl rfl ?_
      refine ar_iload_n (j := 1) (q := 32) rfl rfl rfl rfl ?_
      refine ar_invv (as := [.int 1, .int (nI s), .int k]) (rest := []) (b2 := (0, 0)) (b3 := (0, 0)) (q := 35) rfl rfl rfl rfl mk_74 rfl rfl rfl rfl rfl ?_
      obtain ⟨hp_5, h⟩ := h
      obtain ⟨hA, hB⟩ := h
      refine ok_Re_isCounting1 (by omega) rfl hp_5 (fun c_4 => ?_) (fun c_4 => ?_)
      · have h := hA c_4
        clear hA hB
        show am_Run am_X0 (am_meth d) 84 R 35 [some (.ref 74), some (.int k), some (.int (sum + 1)), some (.int (nI s))] [.int 1] (am_mk I L, 0, 0)
        refine ar_b0 am_c_eq (t := 41) (q := 38) rfl rfl rfl (fun c9 => absurd c9 (by decide)) (fun _ => ?_)
        refine ar_iinc (v := (sum + 1) + 1) (ls' := [some (.ref 74), some (.int k), some (.int ((sum + 1) + 1)), some (.int (nI s))]) (q := 41) rfl rfl rfl rfl rfl rfl ?_
        refine ar_iinc (v := nI (s + 1)) (ls' := [some (.ref 74), some (.int k), some (.int ((sum + 1) + 1)), some (.int (nI (s + 1)))]) (q := 44) rfl rfl rfl (nI_1 _) rfl rfl ?_
        refine ar_goto (t := 4) rfl rfl ?_
        exact am_Run.weak (ls' := _) (by exact ⟨rfl, ⟨rfl, ⟨rfl, ⟨rfl, trivial⟩⟩⟩⟩) h
      · have h := hB c_4
        clear hA hB
        show am_Run am_X0 (am_meth d) 84 R 35 [some (.ref 74), some (.int k), some (.int (sum + 1)), some (.int (nI s))] [.int 0] (am_mk I L, 0, 0)
        refine ar_b0 am_c_eq (t := 41) (q := 38) rfl rfl rfl (fun _ => ?_) (fun c9 => absurd (by decide) c9)
        refine ar_iinc (v := nI (s + 1)) (ls' := [some (.ref 74), some (.int k), some (.int (sum + 1)), some (.int (nI (s + 1)))]) (q := 44) rfl rfl rfl (nI_1 _) rfl rfl ?_
        refine ar_goto (t := 4) rfl rfl ?_
        exact am_Run.weak (ls' := _) (by exact ⟨rfl, ⟨rfl, ⟨rfl, ⟨rfl, trivial⟩⟩⟩⟩) h
    · have h := hB c_2
      clear hA hB
      show am_Run am_X0 (am_meth d) 84 R 22 [some (.ref 74), some (.int k), some (.int sum), some (.int (nI s))] [.int 0] (am_mk I L, 0, 0)
      refine ar_b0 am_c_eq (t := 28) (q := 25) rfl rfl rfl (fun _ => ?_) (fun c9 => absurd (by decide) c9)
      refine ar_aload_n (j := 0) (q := 29) rfl rfl rfl rfl ?_
      refine ar_iconst (v := 1) (q := 30) rfl rfl rfl ?_
      refine ar_iload_n (j := 3) (q := 31) rfl rfl rfl rfl ?_
      refine ar_iload_n (j := 1) (q := 32) rfl rfl rfl rfl ?_
      refine ar_invv (as := [.int 1, .int (nI s), .int k]) (rest := []) (b2 := (0, 0)) (b3 := (0, 0)) (q := 35) rfl rfl rfl rfl mk_74 rfl rfl rfl rfl rfl ?_
      obtain ⟨hp_7, h⟩ := h
      obtain ⟨hA, hB⟩ := h
      refine ok_Re_isCounting1 (by omega) rfl hp_7 (fun c_6 => ?_) (fun c_6 => ?_)
      · have h := hA c_6
        clear hA hB
        show am_Run am_X0 (am_meth d) 84 R 35 [some (.ref 74), some (.int k), some (.int sum), some (.int (nI s))] [.int 1] (am_mk I L, 0, 0)
        refine ar_b0 am_c_eq (t := 41) (q := 38) rfl rfl rfl (fun c9 => absurd c9 (by decide)) (fun _ => ?_)
        refine ar_iinc (v := sum + 1) (ls' := [some (.ref 74), some (.int k), some (.int (sum + 1)), some (.int (nI s))]) (q := 41) rfl rfl rfl rfl rfl rfl ?_
        refine ar_iinc (v := nI (s + 1)) (ls' := [some (.ref 74), some (.int k), some (.int (sum + 1)), some (.int (nI (s + 1)))]) (q := 44) rfl rfl rfl (nI_1 _) rfl rfl ?_
        refine ar_goto (t := 4) rfl rfl ?_
        exact am_Run.weak (ls' := _) (by exact ⟨rfl, ⟨rfl, ⟨rfl, ⟨rfl, trivial⟩⟩⟩⟩) h
      · have h := hB c_6
        clear hA hB
        show am_Run am_X0 (am_meth d) 84 R 35 [some (.ref 74), some (.int k), some (.int sum), some (.int (nI s))] [.int 0] (am_mk I L, 0, 0)
        refine ar_b0 am_c_eq (t := 41) (q := 38) rfl rfl rfl (fun _ => ?_) (fun c9 => absurd (by decide) c9)
        refine ar_iinc (v := nI (s + 1)) (ls' := [some (.ref 74), some (.int k), some (.int sum), some (.int (nI (s + 1)))]) (q := 44) rfl rfl rfl (nI_1 _) rfl rfl ?_
        refine ar_goto (t := 4) rfl rfl ?_
        exact am_Run.weak (ls' := _) (by exact ⟨rfl, ⟨rfl, ⟨rfl, ⟨rfl, trivial⟩⟩⟩⟩) h
theorem r_M_inState_0 {d : Nat} {R : am_R} {I : Nat → Nat → Int32} {L : Nat → Nat → Int64} {x : Int32} (h : am_Run am_X0 (am_meth d) 240 R 4 [some (.ref 113), some (.int x), some (.int 0), some (.int 0)] [] (am_mk I L, 0, 0)) : am_Run am_X0 (am_meth d) 240 R 0 [some (.ref 113), some (.int x), none, none] [] (am_mk I L, 0, 0) := by
  refine ar_iconst (v := 0) (q := 1) rfl rfl rfl ?_
  refine ar_istore_n (j := 2) (ls' := [some (.ref 113), some (.int x), some (.int 0), none]) (q := 2) rfl rfl rfl rfl rfl ?_
  refine ar_iconst (v := 0) (q := 3) rfl rfl rfl ?_
  refine ar_istore_n (j := 3) (ls' := [some (.ref 113), some (.int x), some (.int 0), some (.int 0)]) (q := 4) rfl rfl rfl rfl rfl ?_
  exact am_Run.weak (ls' := _) (by exact ⟨rfl, ⟨rfl, ⟨rfl, ⟨rfl, trivial⟩⟩⟩⟩) h
theorem r_M_inState_4 {d : Nat} {R : am_R} {I : Nat → Nat → Int32} {L : Nat → Nat → Int64} {x : Int32} {sum : Int32} {s : Nat} (h : (((nI s) < (I 113 14) → (s < 60 ∧ ((((I 128 s) = x → (am_Run am_X0 (am_meth d) 240 R 4 [some (.ref 113), some (.int x), some (.int (sum + 1)), some (.int (nI (s + 1)))] [] (am_mk I L, 0, 0))) ∧ (¬ (I 128 s) = x → (am_Run am_X0 (am_meth d) 240 R 4 [some (.ref 113), some (.int x), some (.int sum), some (.int (nI (s + 1)))] [] (am_mk I L, 0, 0))))))) ∧ (¬ (nI s) < (I 113 14) → (R (some (.int sum)) (am_mk I L, 0, 0))))) : am_Run am_X0 (am_meth d) 240 R 4 [some (.ref 113), some (.int x), some (.int sum), some (.int (nI s))] [] (am_mk I L, 0, 0) := by
  refine ar_iload_n (j := 3) (q := 5) rfl rfl rfl rfl ?_
  refine ar_aload_n (j := 0) (q := 6) rfl rfl rfl rfl ?_
  refine ar_getf (v := .int (I 113 14)) (q := 9) rfl rfl mk_113 rfl rfl ?_
  obtain ⟨hA, hB⟩ := h
  refine ar_br am_d_ge (t := 31) (q := 12) rfl rfl rfl (fun c_1 => ?_) (fun c_1 => ?_)
  · have h := hB c_1
    clear hA hB
    refine ar_iload_n (j := 2) (q := 32) rfl rfl rfl rfl ?_
    exact ar_iret rfl rfl h
  · have c_1 := Classical.not_not.mp c_1
    have h := hA c_1
    clear hA hB
    refine ar_aload_n (j := 0) (q := 13) rfl rfl rfl rfl ?_
    refine ar_getf (v := .ref 128) (q := 16) rfl rfl mk_113 rfl rfl ?_
    refine ar_iload_n (j := 3) (q := 17) rfl rfl rfl rfl ?_
    obtain ⟨hx_2, h⟩ := h
    refine ar_iald (v := I 128 s) (q := 18) rfl mk_128 (am_inE rfl hx_2 (by decide)) (am_clE rfl hx_2 (by decide)) rfl ?_
    refine ar_iload_n (j := 1) (q := 19) rfl rfl rfl rfl ?_
    obtain ⟨hA, hB⟩ := h
    refine ar_br am_c_ne (t := 25) (q := 22) rfl rfl rfl (fun c_3 => ?_) (fun c_3 => ?_)
    · have h := hB c_3
      clear hA hB
      refine ar_iinc (v := nI (s + 1)) (ls' := [some (.ref 113), some (.int x), some (.int sum), some (.int (nI (s + 1)))]) (q := 28) rfl rfl rfl (nI_1 _) rfl rfl ?_
      refine ar_goto (t := 4) rfl rfl ?_
      exact am_Run.weak (ls' := _) (by exact ⟨rfl, ⟨rfl, ⟨rfl, ⟨rfl, trivial⟩⟩⟩⟩) h
    · have c_3 := Classical.not_not.mp c_3
      have h := hA c_3
      clear hA hB
      refine ar_iinc (v := sum + 1) (ls' := [some (.ref 113), some (.int x), some (.int (sum + 1)), some (.int (nI s))]) (q := 25) rfl rfl rfl rfl rfl rfl ?_
      refine ar_iinc (v := nI (s + 1)) (ls' := [some (.ref 113), some (.int x), some (.int (sum + 1)), some (.int (nI (s + 1)))]) (q := 28) rfl rfl rfl (nI_1 _) rfl rfl ?_
      refine ar_goto (t := 4) rfl rfl ?_
      exact am_Run.weak (ls' := _) (by exact ⟨rfl, ⟨rfl, ⟨rfl, ⟨rfl, trivial⟩⟩⟩⟩) h
theorem r_M_reviews0_0 {d : Nat} {R : am_R} {I : Nat → Nat → Int32} {L : Nat → Nat → Int64}  (h : am_Run am_X0 (am_meth d) 241 R 4 [some (.ref 113), some (.int 0), some (.int 0), some (.int 0)] [] (am_mk I L, 0, 0)) : am_Run am_X0 (am_meth d) 241 R 0 [some (.ref 113), some (.int 0), none, none] [] (am_mk I L, 0, 0) := by
  refine ar_iconst (v := 0) (q := 1) rfl rfl rfl ?_
  refine ar_istore_n (j := 2) (ls' := [some (.ref 113), some (.int 0), some (.int 0), none]) (q := 2) rfl rfl rfl rfl rfl ?_
  refine ar_iconst (v := 0) (q := 3) rfl rfl rfl ?_
  refine ar_istore_n (j := 3) (ls' := [some (.ref 113), some (.int 0), some (.int 0), some (.int 0)]) (q := 4) rfl rfl rfl rfl rfl ?_
  exact am_Run.weak (ls' := _) (by exact ⟨rfl, ⟨rfl, ⟨rfl, ⟨rfl, trivial⟩⟩⟩⟩) h
theorem r_M_reviews0_4 {d : Nat} {R : am_R} {I : Nat → Nat → Int32} {L : Nat → Nat → Int64} {sum : Int32} {r : Nat} (h : (((nI r) < (2 * (I 113 14)) → (r < 120 ∧ ((((I 130 r) ≤ 0 → (am_Run am_X0 (am_meth d) 241 R 4 [some (.ref 113), some (.int 0), some (.int sum), some (.int (nI (r + 1)))] [] (am_mk I L, 0, 0))) ∧ (¬ (I 130 r) ≤ 0 → (am_Run am_X0 (am_meth d) 241 R 4 [some (.ref 113), some (.int 0), some (.int (sum + 1)), some (.int (nI (r + 1)))] [] (am_mk I L, 0, 0))))))) ∧ (¬ (nI r) < (2 * (I 113 14)) → (R (some (.int sum)) (am_mk I L, 0, 0))))) : am_Run am_X0 (am_meth d) 241 R 4 [some (.ref 113), some (.int 0), some (.int sum), some (.int (nI r))] [] (am_mk I L, 0, 0) := by
  refine ar_iload_n (j := 3) (q := 5) rfl rfl rfl rfl ?_
  refine ar_iconst (v := 2) (q := 6) rfl rfl rfl ?_
  refine ar_aload_n (j := 0) (q := 7) rfl rfl rfl rfl ?_
  refine ar_getf (v := .int (I 113 14)) (q := 10) rfl rfl mk_113 rfl rfl ?_
  refine ar_ib (i := .imul) (z := 2 * (I 113 14)) (q := 11) rfl rfl rfl rfl rfl ?_
  obtain ⟨hA, hB⟩ := h
  refine ar_br am_d_ge (t := 48) (q := 14) rfl rfl rfl (fun c_1 => ?_) (fun c_1 => ?_)
  · have h := hB c_1
    clear hA hB
    refine ar_iload_n (j := 2) (q := 49) rfl rfl rfl rfl ?_
    exact ar_iret rfl rfl h
  · have c_1 := Classical.not_not.mp c_1
    have h := hA c_1
    clear hA hB
    refine ar_aload_n (j := 0) (q := 15) rfl rfl rfl rfl ?_
    refine ar_getf (v := .ref 130) (q := 18) rfl rfl mk_113 rfl rfl ?_
    refine ar_iload_n (j := 3) (q := 19) rfl rfl rfl rfl ?_
    obtain ⟨hx_2, h⟩ := h
    refine ar_iald (v := I 130 r) (q := 20) rfl mk_130 (am_inE rfl hx_2 (by decide)) (am_clE rfl hx_2 (by decide)) rfl ?_
    obtain ⟨hA, hB⟩ := h
    refine ar_b0 am_c_le (t := 42) (q := 23) rfl rfl rfl (fun c_3 => ?_) (fun c_3 => ?_)
    · have h := hA c_3
      clear hA hB
      refine ar_iinc (v := nI (r + 1)) (ls' := [some (.ref 113), some (.int 0), some (.int sum), some (.int (nI (r + 1)))]) (q := 45) rfl rfl rfl (nI_1 _) rfl rfl ?_
      refine ar_goto (t := 4) rfl rfl ?_
      exact am_Run.weak (ls' := _) (by exact ⟨rfl, ⟨rfl, ⟨rfl, ⟨rfl, trivial⟩⟩⟩⟩) h
    · have h := hB c_3
      clear hA hB
      refine ar_iload_n (j := 1) (q := 24) rfl rfl rfl rfl ?_
      refine ar_b0 am_c_eq (t := 39) (q := 27) rfl rfl rfl (fun _ => ?_) (fun c9 => absurd (by decide) c9)
      refine ar_iinc (v := sum + 1) (ls' := [some (.ref 113), some (.int 0), some (.int (sum + 1)), some (.int (nI r))]) (q := 42) rfl rfl rfl rfl rfl rfl ?_
      refine ar_iinc (v := nI (r + 1)) (ls' := [some (.ref 113), some (.int 0), some (.int (sum + 1)), some (.int (nI (r + 1)))]) (q := 45) rfl rfl rfl (nI_1 _) rfl rfl ?_
      refine ar_goto (t := 4) rfl rfl ?_
      exact am_Run.weak (ls' := _) (by exact ⟨rfl, ⟨rfl, ⟨rfl, ⟨rfl, trivial⟩⟩⟩⟩) h
theorem r_M_reviews1_0 {d : Nat} {R : am_R} {I : Nat → Nat → Int32} {L : Nat → Nat → Int64}  (h : am_Run am_X0 (am_meth d) 241 R 4 [some (.ref 113), some (.int 1), some (.int 0), some (.int 0)] [] (am_mk I L, 0, 0)) : am_Run am_X0 (am_meth d) 241 R 0 [some (.ref 113), some (.int 1), none, none] [] (am_mk I L, 0, 0) := by
  refine ar_iconst (v := 0) (q := 1) rfl rfl rfl ?_
  refine ar_istore_n (j := 2) (ls' := [some (.ref 113), some (.int 1), some (.int 0), none]) (q := 2) rfl rfl rfl rfl rfl ?_
  refine ar_iconst (v := 0) (q := 3) rfl rfl rfl ?_
  refine ar_istore_n (j := 3) (ls' := [some (.ref 113), some (.int 1), some (.int 0), some (.int 0)]) (q := 4) rfl rfl rfl rfl rfl ?_
  exact am_Run.weak (ls' := _) (by exact ⟨rfl, ⟨rfl, ⟨rfl, ⟨rfl, trivial⟩⟩⟩⟩) h
theorem r_M_reviews1_4 {d : Nat} (hd : 1 ≤ d) {R : am_R} {I : Nat → Nat → Int32} {L : Nat → Nat → Int64} {sum : Int32} {r : Nat} (h : (((nI r) < (2 * (I 113 14)) → (r < 120 ∧ ((((I 130 r) ≤ 0 → (am_Run am_X0 (am_meth d) 241 R 4 [some (.ref 113), some (.int 1), some (.int sum), some (.int (nI (r + 1)))] [] (am_mk I L, 0, 0))) ∧ (¬ (I 130 r) ≤ 0 → ((r < 120) ∧ (((s_ct (I 130) (I 131) (I 127) (r / 2) (r % 2) (I 113 0) = true → (am_Run am_X0 (am_meth d) 241 R 4 [some (.ref 113), some (.int 1), some (.int (sum + 1)), some (.int (nI (r + 1)))] [] (am_mk I L, 0, 0))) ∧ (¬ (s_ct (I 130) (I 131) (I 127) (r / 2) (r % 2) (I 113 0) = true) → (am_Run am_X0 (am_meth d) 241 R 4 [some (.ref 113), some (.int 1), some (.int sum), some (.int (nI (r + 1)))] [] (am_mk I L, 0, 0))))))))))) ∧ (¬ (nI r) < (2 * (I 113 14)) → (R (some (.int sum)) (am_mk I L, 0, 0))))) : am_Run am_X0 (am_meth d) 241 R 4 [some (.ref 113), some (.int 1), some (.int sum), some (.int (nI r))] [] (am_mk I L, 0, 0) := by
  refine ar_iload_n (j := 3) (q := 5) rfl rfl rfl rfl ?_
  refine ar_iconst (v := 2) (q := 6) rfl rfl rfl ?_
  refine ar_aload_n (j := 0) (q := 7) rfl rfl rfl rfl ?_
  refine ar_getf (v := .int (I 113 14)) (q := 10) rfl rfl mk_113 rfl rfl ?_
  refine ar_ib (i := .imul) (z := 2 * (I 113 14)) (q := 11) rfl rfl rfl rfl rfl ?_
  obtain ⟨hA, hB⟩ := h
  refine ar_br am_d_ge (t := 48) (q := 14) rfl rfl rfl (fun c_1 => ?_) (fun c_1 => ?_)
  · have h := hB c_1
    clear hA hB
    refine ar_iload_n (j := 2) (q := 49) rfl rfl rfl rfl ?_
    exact ar_iret rfl rfl h
  · have c_1 := Classical.not_not.mp c_1
    have h := hA c_1
    clear hA hB
    refine ar_aload_n (j := 0) (q := 15) rfl rfl rfl rfl ?_
    refine ar_getf (v := .ref 130) (q := 18) rfl rfl mk_113 rfl rfl ?_
    refine ar_iload_n (j := 3) (q := 19) rfl rfl rfl rfl ?_
    obtain ⟨hx_2, h⟩ := h
    refine ar_iald (v := I 130 r) (q := 20) rfl mk_130 (am_inE rfl hx_2 (by decide)) (am_clE rfl hx_2 (by decide)) rfl ?_
    obtain ⟨hA, hB⟩ := h
    refine ar_b0 am_c_le (t := 42) (q := 23) rfl rfl rfl (fun c_3 => ?_) (fun c_3 => ?_)
    · have h := hA c_3
      clear hA hB
      refine ar_iinc (v := nI (r + 1)) (ls' := [some (.ref 113), some (.int 1), some (.int sum), some (.int (nI (r + 1)))]) (q := 45) rfl rfl rfl (nI_1 _) rfl rfl ?_
      refine ar_goto (t := 4) rfl rfl ?_
      exact am_Run.weak (ls' := _) (by exact ⟨rfl, ⟨rfl, ⟨rfl, ⟨rfl, trivial⟩⟩⟩⟩) h
    · have h := hB c_3
      clear hA hB
      refine ar_iload_n (j := 1) (q := 24) rfl rfl rfl rfl ?_
      refine ar_b0 am_c_eq (t := 39) (q := 27) rfl rfl rfl (fun c9 => absurd c9 (by decide)) (fun _ => ?_)
      refine ar_aload_n (j := 0) (q := 28) rfl rfl rfl rfl ?_
      refine ar_iload_n (j := 3) (q := 29) rfl rfl rfl rfl ?_
      refine ar_aload_n (j := 0) (q := 30) rfl rfl rfl rfl ?_
      refine ar_getf (v := .int (I 113 0)) (q := 33) rfl rfl mk_113 rfl rfl ?_
      refine ar_invv (as := [.int (nI r), .int (I 113 0)]) (rest := []) (b2 := (0, 0)) (b3 := (0, 0)) (q := 36) rfl rfl rfl rfl mk_113 rfl rfl rfl rfl rfl ?_
      obtain ⟨hp_5, h⟩ := h
      obtain ⟨hA, hB⟩ := h
      refine ok_M_counts (by omega) rfl hp_5 (fun c_4 => ?_) (fun c_4 => ?_)
      · have h := hA c_4
        clear hA hB
        show am_Run am_X0 (am_meth d) 241 R 36 [some (.ref 113), some (.int 1), some (.int sum), some (.int (nI r))] [.int 1] (am_mk I L, 0, 0)
        refine ar_b0 am_c_eq (t := 42) (q := 39) rfl rfl rfl (fun c9 => absurd c9 (by decide)) (fun _ => ?_)
        refine ar_iinc (v := sum + 1) (ls' := [some (.ref 113), some (.int 1), some (.int (sum + 1)), some (.int (nI r))]) (q := 42) rfl rfl rfl rfl rfl rfl ?_
        refine ar_iinc (v := nI (r + 1)) (ls' := [some (.ref 113), some (.int 1), some (.int (sum + 1)), some (.int (nI (r + 1)))]) (q := 45) rfl rfl rfl (nI_1 _) rfl rfl ?_
        refine ar_goto (t := 4) rfl rfl ?_
        exact am_Run.weak (ls' := _) (by exact ⟨rfl, ⟨rfl, ⟨rfl, ⟨rfl, trivial⟩⟩⟩⟩) h
      · have h := hB c_4
        clear hA hB
        show am_Run am_X0 (am_meth d) 241 R 36 [some (.ref 113), some (.int 1), some (.int sum), some (.int (nI r))] [.int 0] (am_mk I L, 0, 0)
        refine ar_b0 am_c_eq (t := 42) (q := 39) rfl rfl rfl (fun _ => ?_) (fun c9 => absurd (by decide) c9)
        refine ar_iinc (v := nI (r + 1)) (ls' := [some (.ref 113), some (.int 1), some (.int sum), some (.int (nI (r + 1)))]) (q := 45) rfl rfl rfl (nI_1 _) rfl rfl ?_
        refine ar_goto (t := 4) rfl rfl ?_
        exact am_Run.weak (ls' := _) (by exact ⟨rfl, ⟨rfl, ⟨rfl, ⟨rfl, trivial⟩⟩⟩⟩) h
theorem r_Reviews_meanOfHouse_0 {d : Nat} {R : am_R} {I : Nat → Nat → Int32} {L : Nat → Nat → Int64} {ho : Int32} {k : Int32} (h : am_Run am_X0 (am_meth d) 83 R 8 [some (.ref 74), some (.int ho), some (.int k), some (.int 0), some (.int 0), some (.int 0)] [] (am_mk I L, 0, 0)) : am_Run am_X0 (am_meth d) 83 R 0 [some (.ref 74), some (.int ho), some (.int k), none, none, none] [] (am_mk I L, 0, 0) := by
  refine ar_iconst (v := 0) (q := 1) rfl rfl rfl ?_
  refine ar_istore_n (j := 3) (ls' := [some (.ref 74), some (.int ho), some (.int k), some (.int 0), none, none]) (q := 2) rfl rfl rfl rfl rfl ?_
  refine ar_iconst (v := 0) (q := 3) rfl rfl rfl ?_
  refine ar_istore (ls' := [some (.ref 74), some (.int ho), some (.int k), some (.int 0), some (.int 0), none]) (q := 5) rfl rfl rfl rfl ?_
  refine ar_iconst (v := 0) (q := 6) rfl rfl rfl ?_
  refine ar_istore (ls' := [some (.ref 74), some (.int ho), some (.int k), some (.int 0), some (.int 0), some (.int 0)]) (q := 8) rfl rfl rfl rfl ?_
  exact am_Run.weak (ls' := _) (by exact ⟨rfl, ⟨rfl, ⟨rfl, ⟨rfl, ⟨rfl, ⟨rfl, trivial⟩⟩⟩⟩⟩⟩) h
theorem r_Reviews_meanOfHouse_8 {d : Nat} (hd : 1 ≤ d) {R : am_R} {I : Nat → Nat → Int32} {L : Nat → Nat → Int64} {ho : Int32} {k : Int32} {sum : Int32} {m : Int32} {s : Nat} (h : (((nI s) < (I 66 1) → (s < 60 ∧ ((((I 67 s) = ho → ((s < 60) ∧ (((am_cg I 83 82 s k → (am_Run am_X0 (am_meth d) 83 R 8 [some (.ref 74), some (.int ho), some (.int k), some (.int (sum + (I 80 s))), some (.int (m + 1)), some (.int (nI (s + 1)))] [] (am_mk I L, 0, 0))) ∧ (¬ (am_cg I 83 82 s k) → (am_Run am_X0 (am_meth d) 83 R 8 [some (.ref 74), some (.int ho), some (.int k), some (.int sum), some (.int m), some (.int (nI (s + 1)))] [] (am_mk I L, 0, 0))))))) ∧ (¬ (I 67 s) = ho → (am_Run am_X0 (am_meth d) 83 R 8 [some (.ref 74), some (.int ho), some (.int k), some (.int sum), some (.int m), some (.int (nI (s + 1)))] [] (am_mk I L, 0, 0))))))) ∧ (¬ (nI s) < (I 66 1) → (((m = 0 → (R (some (.int (-9 : Int32))) (am_mk I L, 0, 0))) ∧ (¬ m = 0 → (¬ m = 0 ∧ (R (some (.int ((100 * sum) / m))) (am_mk I L, 0, 0))))))))) : am_Run am_X0 (am_meth d) 83 R 8 [some (.ref 74), some (.int ho), some (.int k), some (.int sum), some (.int m), some (.int (nI s))] [] (am_mk I L, 0, 0) := by
  refine ar_iload (q := 10) rfl rfl rfl ?_
  refine ar_aload_n (j := 0) (q := 11) rfl rfl rfl rfl ?_
  refine ar_getf (v := .ref 66) (q := 14) rfl rfl mk_74 rfl rfl ?_
  refine ar_getf (v := .int (I 66 1)) (q := 17) rfl rfl mk_66 rfl rfl ?_
  obtain ⟨hA, hB⟩ := h
  refine ar_br am_d_ge (t := 66) (q := 20) rfl rfl rfl (fun c_1 => ?_) (fun c_1 => ?_)
  · have h := hB c_1
    clear hA hB
    refine ar_iload (q := 68) rfl rfl rfl ?_
    obtain ⟨hA, hB⟩ := h
    refine ar_b0 am_c_ne (t := 76) (q := 71) rfl rfl rfl (fun c_6 => ?_) (fun c_6 => ?_)
    · have h := hB c_6
      clear hA hB
      refine ar_bipush (v := 100) (q := 78) rfl rfl rfl ?_
      refine ar_iload_n (j := 3) (q := 79) rfl rfl rfl rfl ?_
      refine ar_ib (i := .imul) (z := 100 * sum) (q := 80) rfl rfl rfl rfl rfl ?_
      refine ar_iload (q := 82) rfl rfl rfl ?_
      obtain ⟨hz_7, h⟩ := h
      refine ar_idiv (q := 83) rfl hz_7 rfl ?_
      exact ar_iret rfl rfl h
    · have c_6 := Classical.not_not.mp c_6
      have h := hA c_6
      clear hA hB
      refine ar_bipush (v := (-9 : Int32)) (q := 73) rfl rfl rfl ?_
      refine ar_goto (t := 83) rfl rfl ?_
      exact ar_iret rfl rfl h
  · have c_1 := Classical.not_not.mp c_1
    have h := hA c_1
    clear hA hB
    refine ar_aload_n (j := 0) (q := 21) rfl rfl rfl rfl ?_
    refine ar_getf (v := .ref 66) (q := 24) rfl rfl mk_74 rfl rfl ?_
    refine ar_getf (v := .ref 67) (q := 27) rfl rfl mk_66 rfl rfl ?_
    refine ar_iload (q := 29) rfl rfl rfl ?_
    obtain ⟨hx_2, h⟩ := h
    refine ar_iald (v := I 67 s) (q := 30) rfl mk_67 (am_inE rfl hx_2 (by decide)) (am_clE rfl hx_2 (by decide)) rfl ?_
    refine ar_iload_n (j := 1) (q := 31) rfl rfl rfl rfl ?_
    obtain ⟨hA, hB⟩ := h
    refine ar_br am_c_ne (t := 60) (q := 34) rfl rfl rfl (fun c_3 => ?_) (fun c_3 => ?_)
    · have h := hB c_3
      clear hA hB
      refine ar_iinc (v := nI (s + 1)) (ls' := [some (.ref 74), some (.int ho), some (.int k), some (.int sum), some (.int m), some (.int (nI (s + 1)))]) (q := 63) rfl rfl rfl (nI_1 _) rfl rfl ?_
      refine ar_goto (t := 8) rfl rfl ?_
      exact am_Run.weak (ls' := _) (by exact ⟨rfl, ⟨rfl, ⟨rfl, ⟨rfl, ⟨rfl, ⟨rfl, trivial⟩⟩⟩⟩⟩⟩) h
    · have c_3 := Classical.not_not.mp c_3
      have h := hA c_3
      clear hA hB
      refine ar_aload_n (j := 0) (q := 35) rfl rfl rfl rfl ?_
      refine ar_iconst (v := 1) (q := 36) rfl rfl rfl ?_
      refine ar_iload (q := 38) rfl rfl rfl ?_
      refine ar_iload_n (j := 2) (q := 39) rfl rfl rfl rfl ?_
      refine ar_invv (as := [.int 1, .int (nI s), .int k]) (rest := []) (b2 := (0, 0)) (b3 := (0, 0)) (q := 42) rfl rfl rfl rfl mk_74 rfl rfl rfl rfl rfl ?_
      obtain ⟨hp_5, h⟩ := h
      obtain ⟨hA, hB⟩ := h
      refine ok_Re_isCounting1 (by omega) rfl hp_5 (fun c_4 => ?_) (fun c_4 => ?_)
      · have h := hA c_4
        clear hA hB
        show am_Run am_X0 (am_meth d) 83 R 42 [some (.ref 74), some (.int ho), some (.int k), some (.int sum), some (.int m), some (.int (nI s))] [.int 1] (am_mk I L, 0, 0)
        refine ar_b0 am_c_eq (t := 60) (q := 45) rfl rfl rfl (fun c9 => absurd c9 (by decide)) (fun _ => ?_)
        refine ar_iload_n (j := 3) (q := 46) rfl rfl rfl rfl ?_
        refine ar_aload_n (j := 0) (q := 47) rfl rfl rfl rfl ?_
        refine ar_getf (v := .ref 78) (q := 50) rfl rfl mk_74 rfl rfl ?_
        refine ar_iconst (v := 1) (q := 51) rfl rfl rfl ?_
        refine ar_aald (c2 := 80) (q := 52) rfl mk_78 (am_inE rfl (by decide) (by decide)) (congrArg (fun z => some (79 + z)) (am_clT (n := 2) rfl (by decide) (by decide))) rfl ?_
        refine ar_iload (q := 54) rfl rfl rfl ?_
        refine ar_iald (v := I 80 s) (q := 55) rfl mk_80 (am_inE rfl hx_2 (by decide)) (am_clE rfl hx_2 (by decide)) rfl ?_
        refine ar_ib (i := .iadd) (z := sum + (I 80 s)) (q := 56) rfl rfl rfl rfl rfl ?_
        refine ar_istore_n (j := 3) (ls' := [some (.ref 74), some (.int ho), some (.int k), some (.int (sum + (I 80 s))), some (.int m), some (.int (nI s))]) (q := 57) rfl rfl rfl rfl rfl ?_
        refine ar_iinc (v := m + 1) (ls' := [some (.ref 74), some (.int ho), some (.int k), some (.int (sum + (I 80 s))), some (.int (m + 1)), some (.int (nI s))]) (q := 60) rfl rfl rfl rfl rfl rfl ?_
        refine ar_iinc (v := nI (s + 1)) (ls' := [some (.ref 74), some (.int ho), some (.int k), some (.int (sum + (I 80 s))), some (.int (m + 1)), some (.int (nI (s + 1)))]) (q := 63) rfl rfl rfl (nI_1 _) rfl rfl ?_
        refine ar_goto (t := 8) rfl rfl ?_
        exact am_Run.weak (ls' := _) (by exact ⟨rfl, ⟨rfl, ⟨rfl, ⟨rfl, ⟨rfl, ⟨rfl, trivial⟩⟩⟩⟩⟩⟩) h
      · have h := hB c_4
        clear hA hB
        show am_Run am_X0 (am_meth d) 83 R 42 [some (.ref 74), some (.int ho), some (.int k), some (.int sum), some (.int m), some (.int (nI s))] [.int 0] (am_mk I L, 0, 0)
        refine ar_b0 am_c_eq (t := 60) (q := 45) rfl rfl rfl (fun _ => ?_) (fun c9 => absurd (by decide) c9)
        refine ar_iinc (v := nI (s + 1)) (ls' := [some (.ref 74), some (.int ho), some (.int k), some (.int sum), some (.int m), some (.int (nI (s + 1)))]) (q := 63) rfl rfl rfl (nI_1 _) rfl rfl ?_
        refine ar_goto (t := 8) rfl rfl ?_
        exact am_Run.weak (ls' := _) (by exact ⟨rfl, ⟨rfl, ⟨rfl, ⟨rfl, ⟨rfl, ⟨rfl, trivial⟩⟩⟩⟩⟩⟩) h
theorem r_H_stars_0 {d : Nat} (hd : 1 ≤ d) {R : am_R} {I : Nat → Nat → Int32} {L : Nat → Nat → Int64} {ho : Int32} {k : Int32} (h : ((0 ≤ ho ∧ ho < I 42 0 → (((k < 0 → (R (some (.int (-4 : Int32))) (am_mk (am_rf I 4) L, 0, 0))) ∧ ((¬ k < 0 ∧ (I 66 0) < k) → (R (some (.int (-6 : Int32))) (am_mk (am_rf I 6) L, 0, 0))) ∧ ((¬ k < 0 ∧ ¬ (I 66 0) < k) → (am_meth d 83 [.ref 74, .int ho, .int k] (am_mk I L, 0, 0) (am_ri (fun z_3 I_4 L_5 => R (some (.int z_3)) (am_mk I_4 L_5, 0, 0)))))))) ∧ (¬ (0 ≤ ho ∧ ho < I 42 0) → (R (some (.int (-1 : Int32))) (am_mk (am_rf I 1) L, 0, 0))))) : am_Run am_X0 (am_meth d) 23 R 0 [some (.ref 0), some (.int ho), some (.int k), none] [] (am_mk I L, 0, 0) := by
  refine ar_aload_n (j := 0) (q := 1) rfl rfl rfl rfl ?_
  refine ar_getf (v := .ref 42) (q := 4) rfl rfl mk_0 rfl rfl ?_
  refine ar_iload_n (j := 1) (q := 5) rfl rfl rfl rfl ?_
  refine ar_invv (as := [.int ho]) (rest := []) (b2 := (0, 0)) (b3 := (0, 0)) (q := 8) rfl rfl rfl rfl mk_42 rfl rfl rfl rfl rfl ?_
  obtain ⟨hA, hB⟩ := h
  refine ok_Ho_has (by omega)  (fun c_1 => ?_) (fun c_1 => ?_)
  · have h := hA c_1
    clear hA hB
    show am_Run am_X0 (am_meth d) 23 R 8 [some (.ref 0), some (.int ho), some (.int k), none] [.int 1] (am_mk I L, 0, 0)
    refine ar_b0 am_c_ne (t := 17) (q := 11) rfl rfl rfl (fun _ => ?_) (fun c9 => absurd (by decide) c9)
    refine ar_iload_n (j := 2) (q := 18) rfl rfl rfl rfl ?_
    refine ar_iconst (v := 0) (q := 19) rfl rfl rfl ?_
    refine ar_aload_n (j := 0) (q := 20) rfl rfl rfl rfl ?_
    refine ar_getf (v := .ref 66) (q := 23) rfl rfl mk_0 rfl rfl ?_
    refine ar_getf (v := .int (I 66 0)) (q := 26) rfl rfl mk_66 rfl rfl ?_
    refine ar_invs (as := [.int k, .int 0, .int (I 66 0)]) (rest := []) (b2 := (0, 0)) (b3 := (0, 0)) (q := 29) rfl rfl rfl rfl rfl rfl rfl rfl rfl ?_
    obtain ⟨hC0, hC1, hC2⟩ := h
    refine ok_bound (by omega)  (fun c_2 => ?_) (fun c_2 => ?_) (fun c_2 => ?_)
    · have h := hC0 c_2
      clear hC0 hC1 hC2
      show am_Run am_X0 (am_meth d) 23 R 29 [some (.ref 0), some (.int ho), some (.int k), none] [.int (-4 : Int32)] (am_mk I L, 0, 0)
      refine ar_istore_n (j := 3) (ls' := [some (.ref 0), some (.int ho), some (.int k), some (.int (-4 : Int32))]) (q := 30) rfl rfl rfl rfl rfl ?_
      refine ar_iload_n (j := 3) (q := 31) rfl rfl rfl rfl ?_
      refine ar_b0 am_c_eq (t := 40) (q := 34) rfl rfl rfl (fun c9 => absurd c9 (by decide)) (fun _ => ?_)
      refine ar_aload_n (j := 0) (q := 35) rfl rfl rfl rfl ?_
      refine ar_iload_n (j := 3) (q := 36) rfl rfl rfl rfl ?_
      refine ar_invv (as := [.int (-4 : Int32)]) (rest := []) (b2 := (0, 0)) (b3 := (0, 0)) (q := 39) rfl rfl rfl rfl mk_0 rfl rfl rfl rfl rfl ?_
      refine ok_refuse (j := 4) (by omega) (by decide) (by decide) ?_
      show am_Run am_X0 (am_meth d) 23 R 39 [some (.ref 0), some (.int ho), some (.int k), some (.int (-4 : Int32))] [.int (-4 : Int32)] (am_mk (am_rf I 4) L, 0, 0)
      exact ar_iret rfl rfl h
    · have h := hC1 c_2
      clear hC0 hC1 hC2
      show am_Run am_X0 (am_meth d) 23 R 29 [some (.ref 0), some (.int ho), some (.int k), none] [.int (-6 : Int32)] (am_mk I L, 0, 0)
      refine ar_istore_n (j := 3) (ls' := [some (.ref 0), some (.int ho), some (.int k), some (.int (-6 : Int32))]) (q := 30) rfl rfl rfl rfl rfl ?_
      refine ar_iload_n (j := 3) (q := 31) rfl rfl rfl rfl ?_
      refine ar_b0 am_c_eq (t := 40) (q := 34) rfl rfl rfl (fun c9 => absurd c9 (by decide)) (fun _ => ?_)
      refine ar_aload_n (j := 0) (q := 35) rfl rfl rfl rfl ?_
      refine ar_iload_n (j := 3) (q := 36) rfl rfl rfl rfl ?_
      refine ar_invv (as := [.int (-6 : Int32)]) (rest := []) (b2 := (0, 0)) (b3 := (0, 0)) (q := 39) rfl rfl rfl rfl mk_0 rfl rfl rfl rfl rfl ?_
      refine ok_refuse (j := 6) (by omega) (by decide) (by decide) ?_
      show am_Run am_X0 (am_meth d) 23 R 39 [some (.ref 0), some (.int ho), some (.int k), some (.int (-6 : Int32))] [.int (-6 : Int32)] (am_mk (am_rf I 6) L, 0, 0)
      exact ar_iret rfl rfl h
    · have h := hC2 c_2
      clear hC0 hC1 hC2
      show am_Run am_X0 (am_meth d) 23 R 29 [some (.ref 0), some (.int ho), some (.int k), none] [.int 0] (am_mk I L, 0, 0)
      refine ar_istore_n (j := 3) (ls' := [some (.ref 0), some (.int ho), some (.int k), some (.int 0)]) (q := 30) rfl rfl rfl rfl rfl ?_
      refine ar_iload_n (j := 3) (q := 31) rfl rfl rfl rfl ?_
      refine ar_b0 am_c_eq (t := 40) (q := 34) rfl rfl rfl (fun _ => ?_) (fun c9 => absurd (by decide) c9)
      refine ar_aload_n (j := 0) (q := 41) rfl rfl rfl rfl ?_
      refine ar_getf (v := .ref 74) (q := 44) rfl rfl mk_0 rfl rfl ?_
      refine ar_iload_n (j := 1) (q := 45) rfl rfl rfl rfl ?_
      refine ar_iload_n (j := 2) (q := 46) rfl rfl rfl rfl ?_
      refine ar_invv (as := [.int ho, .int k]) (rest := []) (b2 := (0, 0)) (b3 := (0, 0)) (q := 49) rfl rfl rfl rfl mk_74 rfl rfl rfl rfl rfl ?_
      refine am_meth_mono d _ _ _ _ _ (fun v9 m9 h9 => ?_) h
      obtain ⟨z_3, I_4, L_5, rfl, rfl, h⟩ := h9
      show am_Run am_X0 (am_meth d) 23 R 49 [some (.ref 0), some (.int ho), some (.int k), some (.int 0)] [.int z_3] (am_mk I_4 L_5, 0, 0)
      exact ar_iret rfl rfl h
  · have h := hB c_1
    clear hA hB
    show am_Run am_X0 (am_meth d) 23 R 8 [some (.ref 0), some (.int ho), some (.int k), none] [.int 0] (am_mk I L, 0, 0)
    refine ar_b0 am_c_ne (t := 17) (q := 11) rfl rfl rfl (fun c9 => absurd (by decide) c9) (fun _ => ?_)
    refine ar_aload_n (j := 0) (q := 12) rfl rfl rfl rfl ?_
    refine ar_iconst (v := (-1 : Int32)) (q := 13) rfl rfl rfl ?_
    refine ar_invv (as := [.int (-1 : Int32)]) (rest := []) (b2 := (0, 0)) (b3 := (0, 0)) (q := 16) rfl rfl rfl rfl mk_0 rfl rfl rfl rfl rfl ?_
    refine ok_refuse (j := 1) (by omega) (by decide) (by decide) ?_
    show am_Run am_X0 (am_meth d) 23 R 16 [some (.ref 0), some (.int ho), some (.int k), none] [.int (-1 : Int32)] (am_mk (am_rf I 1) L, 0, 0)
    exact ar_iret rfl rfl h
theorem r_M_stars_0 {d : Nat} (hd : 1 ≤ d) {R : am_R} {I : Nat → Nat → Int32} {L : Nat → Nat → Int64} {ho : Int32} {k : Int32} (h : ((0 ≤ ho ∧ ho < I 113 10 → (((k < 0 → (R (some (.int (-4 : Int32))) (am_mk (am_no I 4) L, 0, 0))) ∧ (¬ k < 0 → (((k ≤ (I 113 0) → (am_Run am_X0 (am_meth d) 204 R 48 [some (.ref 113), some (.int ho), some (.int k), some (.int 0), some (.int 0), some (.int 0)] [] (am_mk I L, 0, 0))) ∧ (¬ k ≤ (I 113 0) → (R (some (.int (-6 : Int32))) (am_mk (am_no I 6) L, 0, 0))))))))) ∧ (¬ (0 ≤ ho ∧ ho < I 113 10) → (R (some (.int (-1 : Int32))) (am_mk (am_no I 1) L, 0, 0))))) : am_Run am_X0 (am_meth d) 204 R 0 [some (.ref 113), some (.int ho), some (.int k), none, none, none] [] (am_mk I L, 0, 0) := by
  refine ar_aload_n (j := 0) (q := 1) rfl rfl rfl rfl ?_
  refine ar_iload_n (j := 1) (q := 2) rfl rfl rfl rfl ?_
  refine ar_invv (as := [.int ho]) (rest := []) (b2 := (0, 0)) (b3 := (0, 0)) (q := 5) rfl rfl rfl rfl mk_113 rfl rfl rfl rfl rfl ?_
  obtain ⟨hA, hB⟩ := h
  refine ok_M_isHouse (by omega)  (fun c_1 => ?_) (fun c_1 => ?_)
  · have h := hA c_1
    clear hA hB
    show am_Run am_X0 (am_meth d) 204 R 5 [some (.ref 113), some (.int ho), some (.int k), none, none, none] [.int 1] (am_mk I L, 0, 0)
    refine ar_b0 am_c_ne (t := 14) (q := 8) rfl rfl rfl (fun _ => ?_) (fun c9 => absurd (by decide) c9)
    refine ar_iload_n (j := 2) (q := 15) rfl rfl rfl rfl ?_
    obtain ⟨hA, hB⟩ := h
    refine ar_b0 am_d_ge (t := 25) (q := 18) rfl rfl rfl (fun c_2 => ?_) (fun c_2 => ?_)
    · have h := hB c_2
      clear hA hB
      refine ar_iload_n (j := 2) (q := 26) rfl rfl rfl rfl ?_
      refine ar_aload_n (j := 0) (q := 27) rfl rfl rfl rfl ?_
      refine ar_getf (v := .int (I 113 0)) (q := 30) rfl rfl mk_113 rfl rfl ?_
      obtain ⟨hA, hB⟩ := h
      refine ar_br am_c_le (t := 40) (q := 33) rfl rfl rfl (fun c_3 => ?_) (fun c_3 => ?_)
      · have h := hA c_3
        clear hA hB
        refine ar_iconst (v := 0) (q := 41) rfl rfl rfl ?_
        refine ar_istore_n (j := 3) (ls' := [some (.ref 113), some (.int ho), some (.int k), some (.int 0), none, none]) (q := 42) rfl rfl rfl rfl rfl ?_
        refine ar_iconst (v := 0) (q := 43) rfl rfl rfl ?_
        refine ar_istore (ls' := [some (.ref 113), some (.int ho), some (.int k), some (.int 0), some (.int 0), none]) (q := 45) rfl rfl rfl rfl ?_
        refine ar_iconst (v := 0) (q := 46) rfl rfl rfl ?_
        refine ar_istore (ls' := [some (.ref 113), some (.int ho), some (.int k), some (.int 0), some (.int 0), some (.int 0)]) (q := 48) rfl rfl rfl rfl ?_
        exact am_Run.weak (ls' := _) (by exact ⟨rfl, ⟨rfl, ⟨rfl, ⟨rfl, ⟨rfl, ⟨rfl, trivial⟩⟩⟩⟩⟩⟩) h
      · have h := hB c_3
        clear hA hB
        refine ar_aload_n (j := 0) (q := 34) rfl rfl rfl rfl ?_
        refine ar_bipush (v := (-6 : Int32)) (q := 36) rfl rfl rfl ?_
        refine ar_invv (as := [.int (-6 : Int32)]) (rest := []) (b2 := (0, 0)) (b3 := (0, 0)) (q := 39) rfl rfl rfl rfl mk_113 rfl rfl rfl rfl rfl ?_
        refine ok_no (j := 6) (by omega) (by decide) (by decide) ?_
        show am_Run am_X0 (am_meth d) 204 R 39 [some (.ref 113), some (.int ho), some (.int k), none, none, none] [.int (-6 : Int32)] (am_mk (am_no I 6) L, 0, 0)
        exact ar_iret rfl rfl h
    · have c_2 := Classical.not_not.mp c_2
      have h := hA c_2
      clear hA hB
      refine ar_aload_n (j := 0) (q := 19) rfl rfl rfl rfl ?_
      refine ar_bipush (v := (-4 : Int32)) (q := 21) rfl rfl rfl ?_
      refine ar_invv (as := [.int (-4 : Int32)]) (rest := []) (b2 := (0, 0)) (b3 := (0, 0)) (q := 24) rfl rfl rfl rfl mk_113 rfl rfl rfl rfl rfl ?_
      refine ok_no (j := 4) (by omega) (by decide) (by decide) ?_
      show am_Run am_X0 (am_meth d) 204 R 24 [some (.ref 113), some (.int ho), some (.int k), none, none, none] [.int (-4 : Int32)] (am_mk (am_no I 4) L, 0, 0)
      exact ar_iret rfl rfl h
  · have h := hB c_1
    clear hA hB
    show am_Run am_X0 (am_meth d) 204 R 5 [some (.ref 113), some (.int ho), some (.int k), none, none, none] [.int 0] (am_mk I L, 0, 0)
    refine ar_b0 am_c_ne (t := 14) (q := 8) rfl rfl rfl (fun c9 => absurd (by decide) c9) (fun _ => ?_)
    refine ar_aload_n (j := 0) (q := 9) rfl rfl rfl rfl ?_
    refine ar_iconst (v := (-1 : Int32)) (q := 10) rfl rfl rfl ?_
    refine ar_invv (as := [.int (-1 : Int32)]) (rest := []) (b2 := (0, 0)) (b3 := (0, 0)) (q := 13) rfl rfl rfl rfl mk_113 rfl rfl rfl rfl rfl ?_
    refine ok_no (j := 1) (by omega) (by decide) (by decide) ?_
    show am_Run am_X0 (am_meth d) 204 R 13 [some (.ref 113), some (.int ho), some (.int k), none, none, none] [.int (-1 : Int32)] (am_mk (am_no I 1) L, 0, 0)
    exact ar_iret rfl rfl h
theorem r_M_stars_48 {d : Nat} (hd : 1 ≤ d) {R : am_R} {I : Nat → Nat → Int32} {L : Nat → Nat → Int64} {ho : Int32} {k : Int32} {m : Int32} {sum : Int32} {s : Nat} (h : (((nI s) < (I 113 14) → (s < 60 ∧ ((((I 125 s) = ho → (∃ j_4 : Nat, (2 * (nI s)) + 1 = nI j_4 ∧ ((j_4 < 120) ∧ (((s_ct (I 130) (I 131) (I 127) (j_4 / 2) (j_4 % 2) k = true → (∃ j_8 : Nat, j_8 < 120 ∧ (2 * (nI s)) + 1 = nI j_8 ∧ (am_Run am_X0 (am_meth d) 204 R 48 [some (.ref 113), some (.int ho), some (.int k), some (.int (m + 1)), some (.int (sum + (I 130 j_8))), some (.int (nI (s + 1)))] [] (am_mk I L, 0, 0)))) ∧ (¬ (s_ct (I 130) (I 131) (I 127) (j_4 / 2) (j_4 % 2) k = true) → (am_Run am_X0 (am_meth d) 204 R 48 [some (.ref 113), some (.int ho), some (.int k), some (.int m), some (.int sum), some (.int (nI (s + 1)))] [] (am_mk I L, 0, 0)))))))) ∧ (¬ (I 125 s) = ho → (am_Run am_X0 (am_meth d) 204 R 48 [some (.ref 113), some (.int ho), some (.int k), some (.int m), some (.int sum), some (.int (nI (s + 1)))] [] (am_mk I L, 0, 0))))))) ∧ (¬ (nI s) < (I 113 14) → (((m = 0 → (R (some (.int (-9 : Int32))) (am_mk I L, 0, 0))) ∧ (¬ m = 0 → (¬ m = 0 ∧ (R (some (.int ((100 * sum) / m))) (am_mk I L, 0, 0))))))))) : am_Run am_X0 (am_meth d) 204 R 48 [some (.ref 113), some (.int ho), some (.int k), some (.int m), some (.int sum), some (.int (nI s))] [] (am_mk I L, 0, 0) := by
  refine ar_iload (q := 50) rfl rfl rfl ?_
  refine ar_aload_n (j := 0) (q := 51) rfl rfl rfl rfl ?_
  refine ar_getf (v := .int (I 113 14)) (q := 54) rfl rfl mk_113 rfl rfl ?_
  obtain ⟨hA, hB⟩ := h
  refine ar_br am_d_ge (t := 110) (q := 57) rfl rfl rfl (fun c_1 => ?_) (fun c_1 => ?_)
  · have h := hB c_1
    clear hA hB
    refine ar_iload_n (j := 3) (q := 111) rfl rfl rfl rfl ?_
    obtain ⟨hA, hB⟩ := h
    refine ar_b0 am_c_ne (t := 119) (q := 114) rfl rfl rfl (fun c_11 => ?_) (fun c_11 => ?_)
    · have h := hB c_11
      clear hA hB
      refine ar_bipush (v := 100) (q := 121) rfl rfl rfl ?_
      refine ar_iload (q := 123) rfl rfl rfl ?_
      refine ar_ib (i := .imul) (z := 100 * sum) (q := 124) rfl rfl rfl rfl rfl ?_
      refine ar_iload_n (j := 3) (q := 125) rfl rfl rfl rfl ?_
      obtain ⟨hz_12, h⟩ := h
      refine ar_idiv (q := 126) rfl hz_12 rfl ?_
      exact ar_iret rfl rfl h
    · have c_11 := Classical.not_not.mp c_11
      have h := hA c_11
      clear hA hB
      refine ar_bipush (v := (-9 : Int32)) (q := 116) rfl rfl rfl ?_
      refine ar_goto (t := 126) rfl rfl ?_
      exact ar_iret rfl rfl h
  · have c_1 := Classical.not_not.mp c_1
    have h := hA c_1
    clear hA hB
    refine ar_aload_n (j := 0) (q := 58) rfl rfl rfl rfl ?_
    refine ar_getf (v := .ref 125) (q := 61) rfl rfl mk_113 rfl rfl ?_
    refine ar_iload (q := 63) rfl rfl rfl ?_
    obtain ⟨hx_2, h⟩ := h
    refine ar_iald (v := I 125 s) (q := 64) rfl mk_125 (am_inE rfl hx_2 (by decide)) (am_clE rfl hx_2 (by decide)) rfl ?_
    refine ar_iload_n (j := 1) (q := 65) rfl rfl rfl rfl ?_
    obtain ⟨hA, hB⟩ := h
    refine ar_br am_c_ne (t := 104) (q := 68) rfl rfl rfl (fun c_3 => ?_) (fun c_3 => ?_)
    · have h := hB c_3
      clear hA hB
      refine ar_iinc (v := nI (s + 1)) (ls' := [some (.ref 113), some (.int ho), some (.int k), some (.int m), some (.int sum), some (.int (nI (s + 1)))]) (q := 107) rfl rfl rfl (nI_1 _) rfl rfl ?_
      refine ar_goto (t := 48) rfl rfl ?_
      exact am_Run.weak (ls' := _) (by exact ⟨rfl, ⟨rfl, ⟨rfl, ⟨rfl, ⟨rfl, ⟨rfl, trivial⟩⟩⟩⟩⟩⟩) h
    · have c_3 := Classical.not_not.mp c_3
      have h := hA c_3
      clear hA hB
      refine ar_aload_n (j := 0) (q := 69) rfl rfl rfl rfl ?_
      refine ar_iconst (v := 2) (q := 70) rfl rfl rfl ?_
      refine ar_iload (q := 72) rfl rfl rfl ?_
      refine ar_ib (i := .imul) (z := 2 * (nI s)) (q := 73) rfl rfl rfl rfl rfl ?_
      refine ar_iconst (v := 1) (q := 74) rfl rfl rfl ?_
      refine ar_ib (i := .iadd) (z := (2 * (nI s)) + 1) (q := 75) rfl rfl rfl rfl rfl ?_
      refine ar_iload_n (j := 2) (q := 76) rfl rfl rfl rfl ?_
      refine ar_invv (as := [.int ((2 * (nI s)) + 1), .int k]) (rest := []) (b2 := (0, 0)) (b3 := (0, 0)) (q := 79) rfl rfl rfl rfl mk_113 rfl rfl rfl rfl rfl ?_
      obtain ⟨j_4, hi_5, h⟩ := h
      obtain ⟨hp_7, h⟩ := h
      obtain ⟨hA, hB⟩ := h
      refine ok_M_counts (by omega) hi_5 hp_7 (fun c_6 => ?_) (fun c_6 => ?_)
      · have h := hA c_6
        clear hA hB
        show am_Run am_X0 (am_meth d) 204 R 79 [some (.ref 113), some (.int ho), some (.int k), some (.int m), some (.int sum), some (.int (nI s))] [.int 1] (am_mk I L, 0, 0)
        refine ar_b0 am_c_ne (t := 85) (q := 82) rfl rfl rfl (fun _ => ?_) (fun c9 => absurd (by decide) c9)
        refine ar_iinc (v := m + 1) (ls' := [some (.ref 113), some (.int ho), some (.int k), some (.int (m + 1)), some (.int sum), some (.int (nI s))]) (q := 88) rfl rfl rfl rfl rfl rfl ?_
        refine ar_iload (q := 90) rfl rfl rfl ?_
        refine ar_aload_n (j := 0) (q := 91) rfl rfl rfl rfl ?_
        refine ar_getf (v := .ref 130) (q := 94) rfl rfl mk_113 rfl rfl ?_
        refine ar_iconst (v := 2) (q := 95) rfl rfl rfl ?_
        refine ar_iload (q := 97) rfl rfl rfl ?_
        refine ar_ib (i := .imul) (z := 2 * (nI s)) (q := 98) rfl rfl rfl rfl rfl ?_
        refine ar_iconst (v := 1) (q := 99) rfl rfl rfl ?_
        refine ar_ib (i := .iadd) (z := (2 * (nI s)) + 1) (q := 100) rfl rfl rfl rfl rfl ?_
        obtain ⟨j_8, hx_9, hi_10, h⟩ := h
        refine ar_iald (v := I 130 j_8) (q := 101) rfl mk_130 (am_inE hi_10 hx_9 (by decide)) (am_clE hi_10 hx_9 (by decide)) rfl ?_
        refine ar_ib (i := .iadd) (z := sum + (I 130 j_8)) (q := 102) rfl rfl rfl rfl rfl ?_
        refine ar_istore (ls' := [some (.ref 113), some (.int ho), some (.int k), some (.int (m + 1)), some (.int (sum + (I 130 j_8))), some (.int (nI s))]) (q := 104) rfl rfl rfl rfl ?_
        refine ar_iinc (v := nI (s + 1)) (ls' := [some (.ref 113), some (.int ho), some (.int k), some (.int (m + 1)), some (.int (sum + (I 130 j_8))), some (.int (nI (s + 1)))]) (q := 107) rfl rfl rfl (nI_1 _) rfl rfl ?_
        refine ar_goto (t := 48) rfl rfl ?_
        exact am_Run.weak (ls' := _) (by exact ⟨rfl, ⟨rfl, ⟨rfl, ⟨rfl, ⟨rfl, ⟨rfl, trivial⟩⟩⟩⟩⟩⟩) h
      · have h := hB c_6
        clear hA hB
        show am_Run am_X0 (am_meth d) 204 R 79 [some (.ref 113), some (.int ho), some (.int k), some (.int m), some (.int sum), some (.int (nI s))] [.int 0] (am_mk I L, 0, 0)
        refine ar_b0 am_c_ne (t := 85) (q := 82) rfl rfl rfl (fun c9 => absurd (by decide) c9) (fun _ => ?_)
        refine ar_goto (t := 104) rfl rfl ?_
        refine ar_iinc (v := nI (s + 1)) (ls' := [some (.ref 113), some (.int ho), some (.int k), some (.int m), some (.int sum), some (.int (nI (s + 1)))]) (q := 107) rfl rfl rfl (nI_1 _) rfl rfl ?_
        refine ar_goto (t := 48) rfl rfl ?_
        exact am_Run.weak (ls' := _) (by exact ⟨rfl, ⟨rfl, ⟨rfl, ⟨rfl, ⟨rfl, ⟨rfl, trivial⟩⟩⟩⟩⟩⟩) h
theorem r_Rules_townOn_0 {d : Nat} {R : am_R} {I : Nat → Nat → Int32} {L : Nat → Nat → Int64} {k : Nat} {day : Int32} (h : am_Run am_X0 (am_meth d) 110 R 6 [some (.ref 99), some (.int (nI k)), some (.int day), some (.int (-9 : Int32)), some (.int 0)] [] (am_mk I L, 0, 0)) : am_Run am_X0 (am_meth d) 110 R 0 [some (.ref 99), some (.int (nI k)), some (.int day), none, none] [] (am_mk I L, 0, 0) := by
  refine ar_bipush (v := (-9 : Int32)) (q := 2) rfl rfl rfl ?_
  refine ar_istore_n (j := 3) (ls' := [some (.ref 99), some (.int (nI k)), some (.int day), some (.int (-9 : Int32)), none]) (q := 3) rfl rfl rfl rfl rfl ?_
  refine ar_iconst (v := 0) (q := 4) rfl rfl rfl ?_
  refine ar_istore (ls' := [some (.ref 99), some (.int (nI k)), some (.int day), some (.int (-9 : Int32)), some (.int 0)]) (q := 6) rfl rfl rfl rfl ?_
  exact am_Run.weak (ls' := _) (by exact ⟨rfl, ⟨rfl, ⟨rfl, ⟨rfl, ⟨rfl, trivial⟩⟩⟩⟩⟩) h
theorem r_Rules_townOn_6 {d : Nat} (hd : 1 ≤ d) {R : am_R} {I : Nat → Nat → Int32} {L : Nat → Nat → Int64} {k : Nat} {day : Int32} {last : Int32} {s : Nat} (h : (((nI s) < (I 66 1) → ((s < 60) ∧ (((I 70 s = 1 ∧ I 71 s = (nI k) → (s < 60 ∧ ((((I 69 s) < day → (((last = (-9 : Int32) → (am_Run am_X0 (am_meth d) 110 R 6 [some (.ref 99), some (.int (nI k)), some (.int day), some (.int (nI s)), some (.int (nI (s + 1)))] [] (am_mk I L, 0, 0))) ∧ (¬ last = (-9 : Int32) → (∃ j_7 : Nat, j_7 < 60 ∧ last = nI j_7 ∧ ((((I 69 s) ≤ (I 69 j_7) → (am_Run am_X0 (am_meth d) 110 R 6 [some (.ref 99), some (.int (nI k)), some (.int day), some (.int last), some (.int (nI (s + 1)))] [] (am_mk I L, 0, 0))) ∧ (¬ (I 69 s) ≤ (I 69 j_7) → (am_Run am_X0 (am_meth d) 110 R 6 [some (.ref 99), some (.int (nI k)), some (.int day), some (.int (nI s)), some (.int (nI (s + 1)))] [] (am_mk I L, 0, 0)))))))))) ∧ (¬ (I 69 s) < day → (am_Run am_X0 (am_meth d) 110 R 6 [some (.ref 99), some (.int (nI k)), some (.int day), some (.int last), some (.int (nI (s + 1)))] [] (am_mk I L, 0, 0))))))) ∧ (¬ (I 70 s = 1 ∧ I 71 s = (nI k)) → (am_Run am_X0 (am_meth d) 110 R 6 [some (.ref 99), some (.int (nI k)), some (.int day), some (.int last), some (.int (nI (s + 1)))] [] (am_mk I L, 0, 0))))))) ∧ (¬ (nI s) < (I 66 1) → (((last = (-9 : Int32) → (k < 20 ∧ (R (some (.int (I 17 k))) (am_mk I L, 0, 0)))) ∧ (¬ last = (-9 : Int32) → (∃ j_13 : Nat, last = nI j_13 ∧ ((j_13 < 60) ∧ ((am_ix I 67 j_13 20) ∧ (R (some (.int (I 43 (am_n I 67 j_13)))) (am_mk I L, 0, 0))))))))))) : am_Run am_X0 (am_meth d) 110 R 6 [some (.ref 99), some (.int (nI k)), some (.int day), some (.int last), some (.int (nI s))] [] (am_mk I L, 0, 0) := by
  refine ar_iload (q := 8) rfl rfl rfl ?_
  refine ar_aload_n (j := 0) (q := 9) rfl rfl rfl rfl ?_
  refine ar_getf (v := .ref 66) (q := 12) rfl rfl mk_99 rfl rfl ?_
  refine ar_getf (v := .int (I 66 1)) (q := 15) rfl rfl mk_66 rfl rfl ?_
  obtain ⟨hA, hB⟩ := h
  refine ar_br am_d_ge (t := 85) (q := 18) rfl rfl rfl (fun c_1 => ?_) (fun c_1 => ?_)
  · have h := hB c_1
    clear hA hB
    refine ar_iload_n (j := 3) (q := 86) rfl rfl rfl rfl ?_
    refine ar_bipush (v := (-9 : Int32)) (q := 88) rfl rfl rfl ?_
    obtain ⟨hA, hB⟩ := h
    refine ar_br am_c_ne (t := 103) (q := 91) rfl rfl rfl (fun c_11 => ?_) (fun c_11 => ?_)
    · have h := hB c_11
      clear hA hB
      refine ar_aload_n (j := 0) (q := 104) rfl rfl rfl rfl ?_
      refine ar_iload_n (j := 3) (q := 105) rfl rfl rfl rfl ?_
      refine ar_invv (as := [.int last]) (rest := []) (b2 := (0, 0)) (b3 := (0, 0)) (q := 108) rfl rfl rfl rfl mk_99 rfl rfl rfl rfl rfl ?_
      obtain ⟨j_13, hi_14, h⟩ := h
      obtain ⟨hp_15, h⟩ := h
      obtain ⟨hp_16, h⟩ := h
      refine ok_Ru_townOf (by omega) hi_14 hp_15 hp_16 ?_
      show am_Run am_X0 (am_meth d) 110 R 108 [some (.ref 99), some (.int (nI k)), some (.int day), some (.int last), some (.int (nI s))] [.int (I 43 (am_n I 67 j_13))] (am_mk I L, 0, 0)
      exact ar_iret rfl rfl h
    · have c_11 := Classical.not_not.mp c_11
      have h := hA c_11
      clear hA hB
      refine ar_aload_n (j := 0) (q := 92) rfl rfl rfl rfl ?_
      refine ar_getf (v := .ref 16) (q := 95) rfl rfl mk_99 rfl rfl ?_
      refine ar_getf (v := .ref 17) (q := 98) rfl rfl mk_16 rfl rfl ?_
      refine ar_iload_n (j := 1) (q := 99) rfl rfl rfl rfl ?_
      obtain ⟨hx_12, h⟩ := h
      refine ar_iald (v := I 17 k) (q := 100) rfl mk_17 (am_inE rfl hx_12 (by decide)) (am_clE rfl hx_12 (by decide)) rfl ?_
      refine ar_goto (t := 108) rfl rfl ?_
      exact ar_iret rfl rfl h
  · have c_1 := Classical.not_not.mp c_1
    have h := hA c_1
    clear hA hB
    refine ar_aload_n (j := 0) (q := 19) rfl rfl rfl rfl ?_
    refine ar_getf (v := .ref 66) (q := 22) rfl rfl mk_99 rfl rfl ?_
    refine ar_iload (q := 24) rfl rfl rfl ?_
    refine ar_iload_n (j := 1) (q := 25) rfl rfl rfl rfl ?_
    refine ar_invv (as := [.int (nI s), .int (nI k)]) (rest := []) (b2 := (0, 0)) (b3 := (0, 0)) (q := 28) rfl rfl rfl rfl mk_66 rfl rfl rfl rfl rfl ?_
    obtain ⟨hp_3, h⟩ := h
    obtain ⟨hA, hB⟩ := h
    refine ok_St_isTakenBy (by omega) rfl hp_3 (fun c_2 => ?_) (fun c_2 => ?_)
    · have h := hA c_2
      clear hA hB
      show am_Run am_X0 (am_meth d) 110 R 28 [some (.ref 99), some (.int (nI k)), some (.int day), some (.int last), some (.int (nI s))] [.int 1] (am_mk I L, 0, 0)
      refine ar_b0 am_c_eq (t := 79) (q := 31) rfl rfl rfl (fun c9 => absurd c9 (by decide)) (fun _ => ?_)
      refine ar_aload_n (j := 0) (q := 32) rfl rfl rfl rfl ?_
      refine ar_getf (v := .ref 66) (q := 35) rfl rfl mk_99 rfl rfl ?_
      refine ar_getf (v := .ref 69) (q := 38) rfl rfl mk_66 rfl rfl ?_
      refine ar_iload (q := 40) rfl rfl rfl ?_
      obtain ⟨hx_4, h⟩ := h
      refine ar_iald (v := I 69 s) (q := 41) rfl mk_69 (am_inE rfl hx_4 (by decide)) (am_clE rfl hx_4 (by decide)) rfl ?_
      refine ar_iload_n (j := 2) (q := 42) rfl rfl rfl rfl ?_
      obtain ⟨hA, hB⟩ := h
      refine ar_br am_c_lt (t := 48) (q := 45) rfl rfl rfl (fun c_5 => ?_) (fun c_5 => ?_)
      · have h := hA c_5
        clear hA hB
        refine ar_iload_n (j := 3) (q := 49) rfl rfl rfl rfl ?_
        refine ar_bipush (v := (-9 : Int32)) (q := 51) rfl rfl rfl ?_
        obtain ⟨hA, hB⟩ := h
        refine ar_br am_c_eq (t := 76) (q := 54) rfl rfl rfl (fun c_6 => ?_) (fun c_6 => ?_)
        · have h := hA c_6
          clear hA hB
          refine ar_iload (q := 78) rfl rfl rfl ?_
          refine ar_istore_n (j := 3) (ls' := [some (.ref 99), some (.int (nI k)), some (.int day), some (.int (nI s)), some (.int (nI s))]) (q := 79) rfl rfl rfl rfl rfl ?_
          refine ar_iinc (v := nI (s + 1)) (ls' := [some (.ref 99), some (.int (nI k)), some (.int day), some (.int (nI s)), some (.int (nI (s + 1)))]) (q := 82) rfl rfl rfl (nI_1 _) rfl rfl ?_
          refine ar_goto (t := 6) rfl rfl ?_
          exact am_Run.weak (ls' := _) (by exact ⟨rfl, ⟨rfl, ⟨rfl, ⟨rfl, ⟨rfl, trivial⟩⟩⟩⟩⟩) h
        · have h := hB c_6
          clear hA hB
          refine ar_aload_n (j := 0) (q := 55) rfl rfl rfl rfl ?_
          refine ar_getf (v := .ref 66) (q := 58) rfl rfl mk_99 rfl rfl ?_
          refine ar_getf (v := .ref 69) (q := 61) rfl rfl mk_66 rfl rfl ?_
          refine ar_iload (q := 63) rfl rfl rfl ?_
          refine ar_iald (v := I 69 s) (q := 64) rfl mk_69 (am_inE rfl hx_4 (by decide)) (am_clE rfl hx_4 (by decide)) rfl ?_
          refine ar_aload_n (j := 0) (q := 65) rfl rfl rfl rfl ?_
          refine ar_getf (v := .ref 66) (q := 68) rfl rfl mk_99 rfl rfl ?_
          refine ar_getf (v := .ref 69) (q := 71) rfl rfl mk_66 rfl rfl ?_
          refine ar_iload_n (j := 3) (q := 72) rfl rfl rfl rfl ?_
          obtain ⟨j_7, hx_8, hi_9, h⟩ := h
          refine ar_iald (v := I 69 j_7) (q := 73) rfl mk_69 (am_inE hi_9 hx_8 (by decide)) (am_clE hi_9 hx_8 (by decide)) rfl ?_
          obtain ⟨hA, hB⟩ := h
          refine ar_br am_c_le (t := 79) (q := 76) rfl rfl rfl (fun c_10 => ?_) (fun c_10 => ?_)
          · have h := hA c_10
            clear hA hB
            refine ar_iinc (v := nI (s + 1)) (ls' := [some (.ref 99), some (.int (nI k)), some (.int day), some (.int last), some (.int (nI (s + 1)))]) (q := 82) rfl rfl rfl (nI_1 _) rfl rfl ?_
            refine ar_goto (t := 6) rfl rfl ?_
            exact am_Run.weak (ls' := _) (by exact ⟨rfl, ⟨rfl, ⟨rfl, ⟨rfl, ⟨rfl, trivial⟩⟩⟩⟩⟩) h
          · have h := hB c_10
            clear hA hB
            refine ar_iload (q := 78) rfl rfl rfl ?_
            refine ar_istore_n (j := 3) (ls' := [some (.ref 99), some (.int (nI k)), some (.int day), some (.int (nI s)), some (.int (nI s))]) (q := 79) rfl rfl rfl rfl rfl ?_
            refine ar_iinc (v := nI (s + 1)) (ls' := [some (.ref 99), some (.int (nI k)), some (.int day), some (.int (nI s)), some (.int (nI (s + 1)))]) (q := 82) rfl rfl rfl (nI_1 _) rfl rfl ?_
            refine ar_goto (t := 6) rfl rfl ?_
            exact am_Run.weak (ls' := _) (by exact ⟨rfl, ⟨rfl, ⟨rfl, ⟨rfl, ⟨rfl, trivial⟩⟩⟩⟩⟩) h
      · have h := hB c_5
        clear hA hB
        refine ar_goto (t := 79) rfl rfl ?_
        refine ar_iinc (v := nI (s + 1)) (ls' := [some (.ref 99), some (.int (nI k)), some (.int day), some (.int last), some (.int (nI (s + 1)))]) (q := 82) rfl rfl rfl (nI_1 _) rfl rfl ?_
        refine ar_goto (t := 6) rfl rfl ?_
        exact am_Run.weak (ls' := _) (by exact ⟨rfl, ⟨rfl, ⟨rfl, ⟨rfl, ⟨rfl, trivial⟩⟩⟩⟩⟩) h
    · have h := hB c_2
      clear hA hB
      show am_Run am_X0 (am_meth d) 110 R 28 [some (.ref 99), some (.int (nI k)), some (.int day), some (.int last), some (.int (nI s))] [.int 0] (am_mk I L, 0, 0)
      refine ar_b0 am_c_eq (t := 79) (q := 31) rfl rfl rfl (fun _ => ?_) (fun c9 => absurd (by decide) c9)
      refine ar_iinc (v := nI (s + 1)) (ls' := [some (.ref 99), some (.int (nI k)), some (.int day), some (.int last), some (.int (nI (s + 1)))]) (q := 82) rfl rfl rfl (nI_1 _) rfl rfl ?_
      refine ar_goto (t := 6) rfl rfl ?_
      exact am_Run.weak (ls' := _) (by exact ⟨rfl, ⟨rfl, ⟨rfl, ⟨rfl, ⟨rfl, trivial⟩⟩⟩⟩⟩) h
theorem r_M_whereOf_0 {d : Nat} {R : am_R} {I : Nat → Nat → Int32} {L : Nat → Nat → Int64} {k : Nat} {day : Int32} (h : am_Run am_X0 (am_meth d) 194 R 5 [some (.ref 113), some (.int (nI k)), some (.int day), some (.int (-1 : Int32)), some (.int 0)] [] (am_mk I L, 0, 0)) : am_Run am_X0 (am_meth d) 194 R 0 [some (.ref 113), some (.int (nI k)), some (.int day), none, none] [] (am_mk I L, 0, 0) := by
  refine ar_iconst (v := (-1 : Int32)) (q := 1) rfl rfl rfl ?_
  refine ar_istore_n (j := 3) (ls' := [some (.ref 113), some (.int (nI k)), some (.int day), some (.int (-1 : Int32)), none]) (q := 2) rfl rfl rfl rfl rfl ?_
  refine ar_iconst (v := 0) (q := 3) rfl rfl rfl ?_
  refine ar_istore (ls' := [some (.ref 113), some (.int (nI k)), some (.int day), some (.int (-1 : Int32)), some (.int 0)]) (q := 5) rfl rfl rfl rfl ?_
  exact am_Run.weak (ls' := _) (by exact ⟨rfl, ⟨rfl, ⟨rfl, ⟨rfl, ⟨rfl, trivial⟩⟩⟩⟩⟩) h
theorem r_M_whereOf_5 {d : Nat} (hd : 1 ≤ d) {R : am_R} {I : Nat → Nat → Int32} {L : Nat → Nat → Int64} {k : Nat} {day : Int32} {last : Int32} {s : Nat} (h : (((nI s) < (I 113 14) → ((s < 60) ∧ (((I 128 s = 1 ∧ I 129 s = (nI k) → (s < 60 ∧ ((((I 127 s) < day → (((last < 0 → (am_Run am_X0 (am_meth d) 194 R 5 [some (.ref 113), some (.int (nI k)), some (.int day), some (.int (nI s)), some (.int (nI (s + 1)))] [] (am_mk I L, 0, 0))) ∧ (¬ last < 0 → (∃ j_7 : Nat, j_7 < 60 ∧ last = nI j_7 ∧ ((((I 127 s) ≤ (I 127 j_7) → (am_Run am_X0 (am_meth d) 194 R 5 [some (.ref 113), some (.int (nI k)), some (.int day), some (.int last), some (.int (nI (s + 1)))] [] (am_mk I L, 0, 0))) ∧ (¬ (I 127 s) ≤ (I 127 j_7) → (am_Run am_X0 (am_meth d) 194 R 5 [some (.ref 113), some (.int (nI k)), some (.int day), some (.int (nI s)), some (.int (nI (s + 1)))] [] (am_mk I L, 0, 0)))))))))) ∧ (¬ (I 127 s) < day → (am_Run am_X0 (am_meth d) 194 R 5 [some (.ref 113), some (.int (nI k)), some (.int day), some (.int last), some (.int (nI (s + 1)))] [] (am_mk I L, 0, 0))))))) ∧ (¬ (I 128 s = 1 ∧ I 129 s = (nI k)) → (am_Run am_X0 (am_meth d) 194 R 5 [some (.ref 113), some (.int (nI k)), some (.int day), some (.int last), some (.int (nI (s + 1)))] [] (am_mk I L, 0, 0))))))) ∧ (¬ (nI s) < (I 113 14) → (((last < 0 → (k < 20 ∧ (R (some (.int (I 117 k))) (am_mk I L, 0, 0)))) ∧ (¬ last < 0 → (∃ j_13 : Nat, last = nI j_13 ∧ ((j_13 < 60) ∧ ((am_ix I 125 j_13 20) ∧ (R (some (.int (I 122 (am_n I 125 j_13)))) (am_mk I L, 0, 0))))))))))) : am_Run am_X0 (am_meth d) 194 R 5 [some (.ref 113), some (.int (nI k)), some (.int day), some (.int last), some (.int (nI s))] [] (am_mk I L, 0, 0) := by
  refine ar_iload (q := 7) rfl rfl rfl ?_
  refine ar_aload_n (j := 0) (q := 8) rfl rfl rfl rfl ?_
  refine ar_getf (v := .int (I 113 14)) (q := 11) rfl rfl mk_113 rfl rfl ?_
  obtain ⟨hA, hB⟩ := h
  refine ar_br am_d_ge (t := 64) (q := 14) rfl rfl rfl (fun c_1 => ?_) (fun c_1 => ?_)
  · have h := hB c_1
    clear hA hB
    refine ar_iload_n (j := 3) (q := 65) rfl rfl rfl rfl ?_
    obtain ⟨hA, hB⟩ := h
    refine ar_b0 am_d_ge (t := 77) (q := 68) rfl rfl rfl (fun c_11 => ?_) (fun c_11 => ?_)
    · have h := hB c_11
      clear hA hB
      refine ar_aload_n (j := 0) (q := 78) rfl rfl rfl rfl ?_
      refine ar_iload_n (j := 3) (q := 79) rfl rfl rfl rfl ?_
      refine ar_invv (as := [.int last]) (rest := []) (b2 := (0, 0)) (b3 := (0, 0)) (q := 82) rfl rfl rfl rfl mk_113 rfl rfl rfl rfl rfl ?_
      obtain ⟨j_13, hi_14, h⟩ := h
      obtain ⟨hp_15, h⟩ := h
      obtain ⟨hp_16, h⟩ := h
      refine ok_M_townOf (by omega) hi_14 hp_15 hp_16 ?_
      show am_Run am_X0 (am_meth d) 194 R 82 [some (.ref 113), some (.int (nI k)), some (.int day), some (.int last), some (.int (nI s))] [.int (I 122 (am_n I 125 j_13))] (am_mk I L, 0, 0)
      exact ar_iret rfl rfl h
    · have c_11 := Classical.not_not.mp c_11
      have h := hA c_11
      clear hA hB
      refine ar_aload_n (j := 0) (q := 69) rfl rfl rfl rfl ?_
      refine ar_getf (v := .ref 117) (q := 72) rfl rfl mk_113 rfl rfl ?_
      refine ar_iload_n (j := 1) (q := 73) rfl rfl rfl rfl ?_
      obtain ⟨hx_12, h⟩ := h
      refine ar_iald (v := I 117 k) (q := 74) rfl mk_117 (am_inE rfl hx_12 (by decide)) (am_clE rfl hx_12 (by decide)) rfl ?_
      refine ar_goto (t := 82) rfl rfl ?_
      exact ar_iret rfl rfl h
  · have c_1 := Classical.not_not.mp c_1
    have h := hA c_1
    clear hA hB
    refine ar_aload_n (j := 0) (q := 15) rfl rfl rfl rfl ?_
    refine ar_iload_n (j := 1) (q := 16) rfl rfl rfl rfl ?_
    refine ar_iload (q := 18) rfl rfl rfl ?_
    refine ar_invv (as := [.int (nI k), .int (nI s)]) (rest := []) (b2 := (0, 0)) (b3 := (0, 0)) (q := 21) rfl rfl rfl rfl mk_113 rfl rfl rfl rfl rfl ?_
    obtain ⟨hp_3, h⟩ := h
    obtain ⟨hA, hB⟩ := h
    refine ok_M_has (by omega) rfl hp_3 (fun c_2 => ?_) (fun c_2 => ?_)
    · have h := hA c_2
      clear hA hB
      show am_Run am_X0 (am_meth d) 194 R 21 [some (.ref 113), some (.int (nI k)), some (.int day), some (.int last), some (.int (nI s))] [.int 1] (am_mk I L, 0, 0)
      refine ar_b0 am_c_eq (t := 58) (q := 24) rfl rfl rfl (fun c9 => absurd c9 (by decide)) (fun _ => ?_)
      refine ar_aload_n (j := 0) (q := 25) rfl rfl rfl rfl ?_
      refine ar_getf (v := .ref 127) (q := 28) rfl rfl mk_113 rfl rfl ?_
      refine ar_iload (q := 30) rfl rfl rfl ?_
      obtain ⟨hx_4, h⟩ := h
      refine ar_iald (v := I 127 s) (q := 31) rfl mk_127 (am_inE rfl hx_4 (by decide)) (am_clE rfl hx_4 (by decide)) rfl ?_
      refine ar_iload_n (j := 2) (q := 32) rfl rfl rfl rfl ?_
      obtain ⟨hA, hB⟩ := h
      refine ar_br am_d_ge (t := 58) (q := 35) rfl rfl rfl (fun c_5 => ?_) (fun c_5 => ?_)
      · have h := hB c_5
        clear hA hB
        refine ar_iinc (v := nI (s + 1)) (ls' := [some (.ref 113), some (.int (nI k)), some (.int day), some (.int last), some (.int (nI (s + 1)))]) (q := 61) rfl rfl rfl (nI_1 _) rfl rfl ?_
        refine ar_goto (t := 5) rfl rfl ?_
        exact am_Run.weak (ls' := _) (by exact ⟨rfl, ⟨rfl, ⟨rfl, ⟨rfl, ⟨rfl, trivial⟩⟩⟩⟩⟩) h
      · have c_5 := Classical.not_not.mp c_5
        have h := hA c_5
        clear hA hB
        refine ar_iload_n (j := 3) (q := 36) rfl rfl rfl rfl ?_
        obtain ⟨hA, hB⟩ := h
        refine ar_b0 am_c_lt (t := 55) (q := 39) rfl rfl rfl (fun c_6 => ?_) (fun c_6 => ?_)
        · have h := hA c_6
          clear hA hB
          refine ar_iload (q := 57) rfl rfl rfl ?_
          refine ar_istore_n (j := 3) (ls' := [some (.ref 113), some (.int (nI k)), some (.int day), some (.int (nI s)), some (.int (nI s))]) (q := 58) rfl rfl rfl rfl rfl ?_
          refine ar_iinc (v := nI (s + 1)) (ls' := [some (.ref 113), some (.int (nI k)), some (.int day), some (.int (nI s)), some (.int (nI (s + 1)))]) (q := 61) rfl rfl rfl (nI_1 _) rfl rfl ?_
          refine ar_goto (t := 5) rfl rfl ?_
          exact am_Run.weak (ls' := _) (by exact ⟨rfl, ⟨rfl, ⟨rfl, ⟨rfl, ⟨rfl, trivial⟩⟩⟩⟩⟩) h
        · have h := hB c_6
          clear hA hB
          refine ar_aload_n (j := 0) (q := 40) rfl rfl rfl rfl ?_
          refine ar_getf (v := .ref 127) (q := 43) rfl rfl mk_113 rfl rfl ?_
          refine ar_iload (q := 45) rfl rfl rfl ?_
          refine ar_iald (v := I 127 s) (q := 46) rfl mk_127 (am_inE rfl hx_4 (by decide)) (am_clE rfl hx_4 (by decide)) rfl ?_
          refine ar_aload_n (j := 0) (q := 47) rfl rfl rfl rfl ?_
          refine ar_getf (v := .ref 127) (q := 50) rfl rfl mk_113 rfl rfl ?_
          refine ar_iload_n (j := 3) (q := 51) rfl rfl rfl rfl ?_
          obtain ⟨j_7, hx_8, hi_9, h⟩ := h
          refine ar_iald (v := I 127 j_7) (q := 52) rfl mk_127 (am_inE hi_9 hx_8 (by decide)) (am_clE hi_9 hx_8 (by decide)) rfl ?_
          obtain ⟨hA, hB⟩ := h
          refine ar_br am_c_le (t := 58) (q := 55) rfl rfl rfl (fun c_10 => ?_) (fun c_10 => ?_)
          · have h := hA c_10
            clear hA hB
            refine ar_iinc (v := nI (s + 1)) (ls' := [some (.ref 113), some (.int (nI k)), some (.int day), some (.int last), some (.int (nI (s + 1)))]) (q := 61) rfl rfl rfl (nI_1 _) rfl rfl ?_
            refine ar_goto (t := 5) rfl rfl ?_
            exact am_Run.weak (ls' := _) (by exact ⟨rfl, ⟨rfl, ⟨rfl, ⟨rfl, ⟨rfl, trivial⟩⟩⟩⟩⟩) h
          · have h := hB c_10
            clear hA hB
            refine ar_iload (q := 57) rfl rfl rfl ?_
            refine ar_istore_n (j := 3) (ls' := [some (.ref 113), some (.int (nI k)), some (.int day), some (.int (nI s)), some (.int (nI s))]) (q := 58) rfl rfl rfl rfl rfl ?_
            refine ar_iinc (v := nI (s + 1)) (ls' := [some (.ref 113), some (.int (nI k)), some (.int day), some (.int (nI s)), some (.int (nI (s + 1)))]) (q := 61) rfl rfl rfl (nI_1 _) rfl rfl ?_
            refine ar_goto (t := 5) rfl rfl ?_
            exact am_Run.weak (ls' := _) (by exact ⟨rfl, ⟨rfl, ⟨rfl, ⟨rfl, ⟨rfl, trivial⟩⟩⟩⟩⟩) h
    · have h := hB c_2
      clear hA hB
      show am_Run am_X0 (am_meth d) 194 R 21 [some (.ref 113), some (.int (nI k)), some (.int day), some (.int last), some (.int (nI s))] [.int 0] (am_mk I L, 0, 0)
      refine ar_b0 am_c_eq (t := 58) (q := 24) rfl rfl rfl (fun _ => ?_) (fun c9 => absurd (by decide) c9)
      refine ar_iinc (v := nI (s + 1)) (ls' := [some (.ref 113), some (.int (nI k)), some (.int day), some (.int last), some (.int (nI (s + 1)))]) (q := 61) rfl rfl rfl (nI_1 _) rfl rfl ?_
      refine ar_goto (t := 5) rfl rfl ?_
      exact am_Run.weak (ls' := _) (by exact ⟨rfl, ⟨rfl, ⟨rfl, ⟨rfl, ⟨rfl, trivial⟩⟩⟩⟩⟩) h
theorem r_H_where_0 {d : Nat} (hd : 1 ≤ d) {R : am_R} {I : Nat → Nat → Int32} {L : Nat → Nat → Int64} {k : Int32} {x : Int32} (h : ((0 ≤ k ∧ k < I 16 0 → (((x < 0 → (R (some (.int (-4 : Int32))) (am_mk (am_rf I 4) L, 0, 0))) ∧ ((¬ x < 0 ∧ 1500 < x) → (R (some (.int (-6 : Int32))) (am_mk (am_rf I 6) L, 0, 0))) ∧ ((¬ x < 0 ∧ ¬ 1500 < x) → (am_meth d 110 [.ref 99, .int k, .int x] (am_mk I L, 0, 0) (am_ri (fun z_3 I_4 L_5 => R (some (.int z_3)) (am_mk I_4 L_5, 0, 0)))))))) ∧ (¬ (0 ≤ k ∧ k < I 16 0) → (R (some (.int (-1 : Int32))) (am_mk (am_rf I 1) L, 0, 0))))) : am_Run am_X0 (am_meth d) 14 R 0 [some (.ref 0), some (.int k), some (.int x), none] [] (am_mk I L, 0, 0) := by
  refine ar_aload_n (j := 0) (q := 1) rfl rfl rfl rfl ?_
  refine ar_getf (v := .ref 16) (q := 4) rfl rfl mk_0 rfl rfl ?_
  refine ar_iload_n (j := 1) (q := 5) rfl rfl rfl rfl ?_
  refine ar_invv (as := [.int k]) (rest := []) (b2 := (0, 0)) (b3 := (0, 0)) (q := 8) rfl rfl rfl rfl mk_16 rfl rfl rfl rfl rfl ?_
  obtain ⟨hA, hB⟩ := h
  refine ok_Ke_has (by omega)  (fun c_1 => ?_) (fun c_1 => ?_)
  · have h := hA c_1
    clear hA hB
    show am_Run am_X0 (am_meth d) 14 R 8 [some (.ref 0), some (.int k), some (.int x), none] [.int 1] (am_mk I L, 0, 0)
    refine ar_b0 am_c_ne (t := 17) (q := 11) rfl rfl rfl (fun _ => ?_) (fun c9 => absurd (by decide) c9)
    refine ar_iload_n (j := 2) (q := 18) rfl rfl rfl rfl ?_
    refine ar_iconst (v := 0) (q := 19) rfl rfl rfl ?_
    refine ar_sipush (v := 1500) (q := 22) rfl rfl rfl ?_
    refine ar_invs (as := [.int x, .int 0, .int 1500]) (rest := []) (b2 := (0, 0)) (b3 := (0, 0)) (q := 25) rfl rfl rfl rfl rfl rfl rfl rfl rfl ?_
    obtain ⟨hC0, hC1, hC2⟩ := h
    refine ok_bound (by omega)  (fun c_2 => ?_) (fun c_2 => ?_) (fun c_2 => ?_)
    · have h := hC0 c_2
      clear hC0 hC1 hC2
      show am_Run am_X0 (am_meth d) 14 R 25 [some (.ref 0), some (.int k), some (.int x), none] [.int (-4 : Int32)] (am_mk I L, 0, 0)
      refine ar_istore_n (j := 3) (ls' := [some (.ref 0), some (.int k), some (.int x), some (.int (-4 : Int32))]) (q := 26) rfl rfl rfl rfl rfl ?_
      refine ar_iload_n (j := 3) (q := 27) rfl rfl rfl rfl ?_
      refine ar_b0 am_c_eq (t := 36) (q := 30) rfl rfl rfl (fun c9 => absurd c9 (by decide)) (fun _ => ?_)
      refine ar_aload_n (j := 0) (q := 31) rfl rfl rfl rfl ?_
      refine ar_iload_n (j := 3) (q := 32) rfl rfl rfl rfl ?_
      refine ar_invv (as := [.int (-4 : Int32)]) (rest := []) (b2 := (0, 0)) (b3 := (0, 0)) (q := 35) rfl rfl rfl rfl mk_0 rfl rfl rfl rfl rfl ?_
      refine ok_refuse (j := 4) (by omega) (by decide) (by decide) ?_
      show am_Run am_X0 (am_meth d) 14 R 35 [some (.ref 0), some (.int k), some (.int x), some (.int (-4 : Int32))] [.int (-4 : Int32)] (am_mk (am_rf I 4) L, 0, 0)
      exact ar_iret rfl rfl h
    · have h := hC1 c_2
      clear hC0 hC1 hC2
      show am_Run am_X0 (am_meth d) 14 R 25 [some (.ref 0), some (.int k), some (.int x), none] [.int (-6 : Int32)] (am_mk I L, 0, 0)
      refine ar_istore_n (j := 3) (ls' := [some (.ref 0), some (.int k), some (.int x), some (.int (-6 : Int32))]) (q := 26) rfl rfl rfl rfl rfl ?_
      refine ar_iload_n (j := 3) (q := 27) rfl rfl rfl rfl ?_
      refine ar_b0 am_c_eq (t := 36) (q := 30) rfl rfl rfl (fun c9 => absurd c9 (by decide)) (fun _ => ?_)
      refine ar_aload_n (j := 0) (q := 31) rfl rfl rfl rfl ?_
      refine ar_iload_n (j := 3) (q := 32) rfl rfl rfl rfl ?_
      refine ar_invv (as := [.int (-6 : Int32)]) (rest := []) (b2 := (0, 0)) (b3 := (0, 0)) (q := 35) rfl rfl rfl rfl mk_0 rfl rfl rfl rfl rfl ?_
      refine ok_refuse (j := 6) (by omega) (by decide) (by decide) ?_
      show am_Run am_X0 (am_meth d) 14 R 35 [some (.ref 0), some (.int k), some (.int x), some (.int (-6 : Int32))] [.int (-6 : Int32)] (am_mk (am_rf I 6) L, 0, 0)
      exact ar_iret rfl rfl h
    · have h := hC2 c_2
      clear hC0 hC1 hC2
      show am_Run am_X0 (am_meth d) 14 R 25 [some (.ref 0), some (.int k), some (.int x), none] [.int 0] (am_mk I L, 0, 0)
      refine ar_istore_n (j := 3) (ls' := [some (.ref 0), some (.int k), some (.int x), some (.int 0)]) (q := 26) rfl rfl rfl rfl rfl ?_
      refine ar_iload_n (j := 3) (q := 27) rfl rfl rfl rfl ?_
      refine ar_b0 am_c_eq (t := 36) (q := 30) rfl rfl rfl (fun _ => ?_) (fun c9 => absurd (by decide) c9)
      refine ar_aload_n (j := 0) (q := 37) rfl rfl rfl rfl ?_
      refine ar_getf (v := .ref 99) (q := 40) rfl rfl mk_0 rfl rfl ?_
      refine ar_iload_n (j := 1) (q := 41) rfl rfl rfl rfl ?_
      refine ar_iload_n (j := 2) (q := 42) rfl rfl rfl rfl ?_
      refine ar_invv (as := [.int k, .int x]) (rest := []) (b2 := (0, 0)) (b3 := (0, 0)) (q := 45) rfl rfl rfl rfl mk_99 rfl rfl rfl rfl rfl ?_
      refine am_meth_mono d _ _ _ _ _ (fun v9 m9 h9 => ?_) h
      obtain ⟨z_3, I_4, L_5, rfl, rfl, h⟩ := h9
      show am_Run am_X0 (am_meth d) 14 R 45 [some (.ref 0), some (.int k), some (.int x), some (.int 0)] [.int z_3] (am_mk I_4 L_5, 0, 0)
      exact ar_iret rfl rfl h
  · have h := hB c_1
    clear hA hB
    show am_Run am_X0 (am_meth d) 14 R 8 [some (.ref 0), some (.int k), some (.int x), none] [.int 0] (am_mk I L, 0, 0)
    refine ar_b0 am_c_ne (t := 17) (q := 11) rfl rfl rfl (fun c9 => absurd (by decide) c9) (fun _ => ?_)
    refine ar_aload_n (j := 0) (q := 12) rfl rfl rfl rfl ?_
    refine ar_iconst (v := (-1 : Int32)) (q := 13) rfl rfl rfl ?_
    refine ar_invv (as := [.int (-1 : Int32)]) (rest := []) (b2 := (0, 0)) (b3 := (0, 0)) (q := 16) rfl rfl rfl rfl mk_0 rfl rfl rfl rfl rfl ?_
    refine ok_refuse (j := 1) (by omega) (by decide) (by decide) ?_
    show am_Run am_X0 (am_meth d) 14 R 16 [some (.ref 0), some (.int k), some (.int x), none] [.int (-1 : Int32)] (am_mk (am_rf I 1) L, 0, 0)
    exact ar_iret rfl rfl h
theorem r_M_where_0 {d : Nat} (hd : 1 ≤ d) {R : am_R} {I : Nat → Nat → Int32} {L : Nat → Nat → Int64} {k : Int32} {x : Int32} (h : ((0 ≤ k ∧ k < I 113 4 → (((x < 0 → (R (some (.int (-4 : Int32))) (am_mk (am_no I 4) L, 0, 0))) ∧ (¬ x < 0 → (((x ≤ 1500 → (am_meth d 194 [.ref 113, .int k, .int x] (am_mk I L, 0, 0) (am_ri (fun z_4 I_5 L_6 => R (some (.int z_4)) (am_mk I_5 L_6, 0, 0))))) ∧ (¬ x ≤ 1500 → (R (some (.int (-6 : Int32))) (am_mk (am_no I 6) L, 0, 0))))))))) ∧ (¬ (0 ≤ k ∧ k < I 113 4) → (R (some (.int (-1 : Int32))) (am_mk (am_no I 1) L, 0, 0))))) : am_Run am_X0 (am_meth d) 193 R 0 [some (.ref 113), some (.int k), some (.int x)] [] (am_mk I L, 0, 0) := by
  refine ar_aload_n (j := 0) (q := 1) rfl rfl rfl rfl ?_
  refine ar_iload_n (j := 1) (q := 2) rfl rfl rfl rfl ?_
  refine ar_invv (as := [.int k]) (rest := []) (b2 := (0, 0)) (b3 := (0, 0)) (q := 5) rfl rfl rfl rfl mk_113 rfl rfl rfl rfl rfl ?_
  obtain ⟨hA, hB⟩ := h
  refine ok_M_isKeeper (by omega)  (fun c_1 => ?_) (fun c_1 => ?_)
  · have h := hA c_1
    clear hA hB
    show am_Run am_X0 (am_meth d) 193 R 5 [some (.ref 113), some (.int k), some (.int x)] [.int 1] (am_mk I L, 0, 0)
    refine ar_b0 am_c_ne (t := 14) (q := 8) rfl rfl rfl (fun _ => ?_) (fun c9 => absurd (by decide) c9)
    refine ar_iload_n (j := 2) (q := 15) rfl rfl rfl rfl ?_
    obtain ⟨hA, hB⟩ := h
    refine ar_b0 am_d_ge (t := 25) (q := 18) rfl rfl rfl (fun c_2 => ?_) (fun c_2 => ?_)
    · have h := hB c_2
      clear hA hB
      refine ar_iload_n (j := 2) (q := 26) rfl rfl rfl rfl ?_
      refine ar_sipush (v := 1500) (q := 29) rfl rfl rfl ?_
      obtain ⟨hA, hB⟩ := h
      refine ar_br am_c_le (t := 39) (q := 32) rfl rfl rfl (fun c_3 => ?_) (fun c_3 => ?_)
      · have h := hA c_3
        clear hA hB
        refine ar_aload_n (j := 0) (q := 40) rfl rfl rfl rfl ?_
        refine ar_iload_n (j := 1) (q := 41) rfl rfl rfl rfl ?_
        refine ar_iload_n (j := 2) (q := 42) rfl rfl rfl rfl ?_
        refine ar_invv (as := [.int k, .int x]) (rest := []) (b2 := (0, 0)) (b3 := (0, 0)) (q := 45) rfl rfl rfl rfl mk_113 rfl rfl rfl rfl rfl ?_
        refine am_meth_mono d _ _ _ _ _ (fun v9 m9 h9 => ?_) h
        obtain ⟨z_4, I_5, L_6, rfl, rfl, h⟩ := h9
        show am_Run am_X0 (am_meth d) 193 R 45 [some (.ref 113), some (.int k), some (.int x)] [.int z_4] (am_mk I_5 L_6, 0, 0)
        exact ar_iret rfl rfl h
      · have h := hB c_3
        clear hA hB
        refine ar_aload_n (j := 0) (q := 33) rfl rfl rfl rfl ?_
        refine ar_bipush (v := (-6 : Int32)) (q := 35) rfl rfl rfl ?_
        refine ar_invv (as := [.int (-6 : Int32)]) (rest := []) (b2 := (0, 0)) (b3 := (0, 0)) (q := 38) rfl rfl rfl rfl mk_113 rfl rfl rfl rfl rfl ?_
        refine ok_no (j := 6) (by omega) (by decide) (by decide) ?_
        show am_Run am_X0 (am_meth d) 193 R 38 [some (.ref 113), some (.int k), some (.int x)] [.int (-6 : Int32)] (am_mk (am_no I 6) L, 0, 0)
        exact ar_iret rfl rfl h
    · have c_2 := Classical.not_not.mp c_2
      have h := hA c_2
      clear hA hB
      refine ar_aload_n (j := 0) (q := 19) rfl rfl rfl rfl ?_
      refine ar_bipush (v := (-4 : Int32)) (q := 21) rfl rfl rfl ?_
      refine ar_invv (as := [.int (-4 : Int32)]) (rest := []) (b2 := (0, 0)) (b3 := (0, 0)) (q := 24) rfl rfl rfl rfl mk_113 rfl rfl rfl rfl rfl ?_
      refine ok_no (j := 4) (by omega) (by decide) (by decide) ?_
      show am_Run am_X0 (am_meth d) 193 R 24 [some (.ref 113), some (.int k), some (.int x)] [.int (-4 : Int32)] (am_mk (am_no I 4) L, 0, 0)
      exact ar_iret rfl rfl h
  · have h := hB c_1
    clear hA hB
    show am_Run am_X0 (am_meth d) 193 R 5 [some (.ref 113), some (.int k), some (.int x)] [.int 0] (am_mk I L, 0, 0)
    refine ar_b0 am_c_ne (t := 14) (q := 8) rfl rfl rfl (fun c9 => absurd (by decide) c9) (fun _ => ?_)
    refine ar_aload_n (j := 0) (q := 9) rfl rfl rfl rfl ?_
    refine ar_iconst (v := (-1 : Int32)) (q := 10) rfl rfl rfl ?_
    refine ar_invv (as := [.int (-1 : Int32)]) (rest := []) (b2 := (0, 0)) (b3 := (0, 0)) (q := 13) rfl rfl rfl rfl mk_113 rfl rfl rfl rfl rfl ?_
    refine ok_no (j := 1) (by omega) (by decide) (by decide) ?_
    show am_Run am_X0 (am_meth d) 193 R 13 [some (.ref 113), some (.int k), some (.int x)] [.int (-1 : Int32)] (am_mk (am_no I 1) L, 0, 0)
    exact ar_iret rfl rfl h
theorem r_M_handOf_0 {d : Nat} {R : am_R} {I : Nat → Nat → Int32} {L : Nat → Nat → Int64} {ho : Int32} {k : Int32} (h : am_Run am_X0 (am_meth d) 186 R 8 [some (.ref 113), some (.int ho), some (.int k), some (.int 0), some (.int 0), some (.int 0)] [] (am_mk I L, 0, 0)) : am_Run am_X0 (am_meth d) 186 R 0 [some (.ref 113), some (.int ho), some (.int k), none, none, none] [] (am_mk I L, 0, 0) := by
  refine ar_iconst (v := 0) (q := 1) rfl rfl rfl ?_
  refine ar_istore_n (j := 3) (ls' := [some (.ref 113), some (.int ho), some (.int k), some (.int 0), none, none]) (q := 2) rfl rfl rfl rfl rfl ?_
  refine ar_iconst (v := 0) (q := 3) rfl rfl rfl ?_
  refine ar_istore (ls' := [some (.ref 113), some (.int ho), some (.int k), some (.int 0), some (.int 0), none]) (q := 5) rfl rfl rfl rfl ?_
  refine ar_iconst (v := 0) (q := 6) rfl rfl rfl ?_
  refine ar_istore (ls' := [some (.ref 113), some (.int ho), some (.int k), some (.int 0), some (.int 0), some (.int 0)]) (q := 8) rfl rfl rfl rfl ?_
  exact am_Run.weak (ls' := _) (by exact ⟨rfl, ⟨rfl, ⟨rfl, ⟨rfl, ⟨rfl, ⟨rfl, trivial⟩⟩⟩⟩⟩⟩) h
theorem r_M_handOf_8 {d : Nat} (hd : 1 ≤ d) {R : am_R} {I : Nat → Nat → Int32} {L : Nat → Nat → Int64} {ho : Int32} {k : Int32} {m : Int32} {sum : Int32} {s : Nat} (h : (((nI s) < (I 113 14) → (s < 60 ∧ ((((I 125 s) = ho → (∃ j_4 : Nat, 2 * (nI s) = nI j_4 ∧ ((j_4 < 120) ∧ (((s_ct (I 130) (I 131) (I 127) (j_4 / 2) (j_4 % 2) k = true → (∃ j_8 : Nat, j_8 < 120 ∧ 2 * (nI s) = nI j_8 ∧ (am_Run am_X0 (am_meth d) 186 R 8 [some (.ref 113), some (.int ho), some (.int k), some (.int (m + 1)), some (.int (sum + (I 130 j_8))), some (.int (nI (s + 1)))] [] (am_mk I L, 0, 0)))) ∧ (¬ (s_ct (I 130) (I 131) (I 127) (j_4 / 2) (j_4 % 2) k = true) → (am_Run am_X0 (am_meth d) 186 R 8 [some (.ref 113), some (.int ho), some (.int k), some (.int m), some (.int sum), some (.int (nI (s + 1)))] [] (am_mk I L, 0, 0)))))))) ∧ (¬ (I 125 s) = ho → (am_Run am_X0 (am_meth d) 186 R 8 [some (.ref 113), some (.int ho), some (.int k), some (.int m), some (.int sum), some (.int (nI (s + 1)))] [] (am_mk I L, 0, 0))))))) ∧ (¬ (nI s) < (I 113 14) → (((m = 0 → (R (some (.int 300)) (am_mk I L, 0, 0))) ∧ (¬ m = 0 → (¬ m = 0 ∧ (R (some (.int ((100 * sum) / m))) (am_mk I L, 0, 0))))))))) : am_Run am_X0 (am_meth d) 186 R 8 [some (.ref 113), some (.int ho), some (.int k), some (.int m), some (.int sum), some (.int (nI s))] [] (am_mk I L, 0, 0) := by
  refine ar_iload (q := 10) rfl rfl rfl ?_
  refine ar_aload_n (j := 0) (q := 11) rfl rfl rfl rfl ?_
  refine ar_getf (v := .int (I 113 14)) (q := 14) rfl rfl mk_113 rfl rfl ?_
  obtain ⟨hA, hB⟩ := h
  refine ar_br am_d_ge (t := 66) (q := 17) rfl rfl rfl (fun c_1 => ?_) (fun c_1 => ?_)
  · have h := hB c_1
    clear hA hB
    refine ar_iload_n (j := 3) (q := 67) rfl rfl rfl rfl ?_
    obtain ⟨hA, hB⟩ := h
    refine ar_b0 am_c_ne (t := 76) (q := 70) rfl rfl rfl (fun c_11 => ?_) (fun c_11 => ?_)
    · have h := hB c_11
      clear hA hB
      refine ar_bipush (v := 100) (q := 78) rfl rfl rfl ?_
      refine ar_iload (q := 80) rfl rfl rfl ?_
      refine ar_ib (i := .imul) (z := 100 * sum) (q := 81) rfl rfl rfl rfl rfl ?_
      refine ar_iload_n (j := 3) (q := 82) rfl rfl rfl rfl ?_
      obtain ⟨hz_12, h⟩ := h
      refine ar_idiv (q := 83) rfl hz_12 rfl ?_
      exact ar_iret rfl rfl h
    · have c_11 := Classical.not_not.mp c_11
      have h := hA c_11
      clear hA hB
      refine ar_sipush (v := 300) (q := 73) rfl rfl rfl ?_
      refine ar_goto (t := 83) rfl rfl ?_
      exact ar_iret rfl rfl h
  · have c_1 := Classical.not_not.mp c_1
    have h := hA c_1
    clear hA hB
    refine ar_aload_n (j := 0) (q := 18) rfl rfl rfl rfl ?_
    refine ar_getf (v := .ref 125) (q := 21) rfl rfl mk_113 rfl rfl ?_
    refine ar_iload (q := 23) rfl rfl rfl ?_
    obtain ⟨hx_2, h⟩ := h
    refine ar_iald (v := I 125 s) (q := 24) rfl mk_125 (am_inE rfl hx_2 (by decide)) (am_clE rfl hx_2 (by decide)) rfl ?_
    refine ar_iload_n (j := 1) (q := 25) rfl rfl rfl rfl ?_
    obtain ⟨hA, hB⟩ := h
    refine ar_br am_c_ne (t := 60) (q := 28) rfl rfl rfl (fun c_3 => ?_) (fun c_3 => ?_)
    · have h := hB c_3
      clear hA hB
      refine ar_iinc (v := nI (s + 1)) (ls' := [some (.ref 113), some (.int ho), some (.int k), some (.int m), some (.int sum), some (.int (nI (s + 1)))]) (q := 63) rfl rfl rfl (nI_1 _) rfl rfl ?_
      refine ar_goto (t := 8) rfl rfl ?_
      exact am_Run.weak (ls' := _) (by exact ⟨rfl, ⟨rfl, ⟨rfl, ⟨rfl, ⟨rfl, ⟨rfl, trivial⟩⟩⟩⟩⟩⟩) h
    · have c_3 := Classical.not_not.mp c_3
      have h := hA c_3
      clear hA hB
      refine ar_aload_n (j := 0) (q := 29) rfl rfl rfl rfl ?_
      refine ar_iconst (v := 2) (q := 30) rfl rfl rfl ?_
      refine ar_iload (q := 32) rfl rfl rfl ?_
      refine ar_ib (i := .imul) (z := 2 * (nI s)) (q := 33) rfl rfl rfl rfl rfl ?_
      refine ar_iload_n (j := 2) (q := 34) rfl rfl rfl rfl ?_
      refine ar_invv (as := [.int (2 * (nI s)), .int k]) (rest := []) (b2 := (0, 0)) (b3 := (0, 0)) (q := 37) rfl rfl rfl rfl mk_113 rfl rfl rfl rfl rfl ?_
      obtain ⟨j_4, hi_5, h⟩ := h
      obtain ⟨hp_7, h⟩ := h
      obtain ⟨hA, hB⟩ := h
      refine ok_M_counts (by omega) hi_5 hp_7 (fun c_6 => ?_) (fun c_6 => ?_)
      · have h := hA c_6
        clear hA hB
        show am_Run am_X0 (am_meth d) 186 R 37 [some (.ref 113), some (.int ho), some (.int k), some (.int m), some (.int sum), some (.int (nI s))] [.int 1] (am_mk I L, 0, 0)
        refine ar_b0 am_c_ne (t := 43) (q := 40) rfl rfl rfl (fun _ => ?_) (fun c9 => absurd (by decide) c9)
        refine ar_iinc (v := m + 1) (ls' := [some (.ref 113), some (.int ho), some (.int k), some (.int (m + 1)), some (.int sum), some (.int (nI s))]) (q := 46) rfl rfl rfl rfl rfl rfl ?_
        refine ar_iload (q := 48) rfl rfl rfl ?_
        refine ar_aload_n (j := 0) (q := 49) rfl rfl rfl rfl ?_
        refine ar_getf (v := .ref 130) (q := 52) rfl rfl mk_113 rfl rfl ?_
        refine ar_iconst (v := 2) (q := 53) rfl rfl rfl ?_
        refine ar_iload (q := 55) rfl rfl rfl ?_
        refine ar_ib (i := .imul) (z := 2 * (nI s)) (q := 56) rfl rfl rfl rfl rfl ?_
        obtain ⟨j_8, hx_9, hi_10, h⟩ := h
        refine ar_iald (v := I 130 j_8) (q := 57) rfl mk_130 (am_inE hi_10 hx_9 (by decide)) (am_clE hi_10 hx_9 (by decide)) rfl ?_
        refine ar_ib (i := .iadd) (z := sum + (I 130 j_8)) (q := 58) rfl rfl rfl rfl rfl ?_
        refine ar_istore (ls' := [some (.ref 113), some (.int ho), some (.int k), some (.int (m + 1)), some (.int (sum + (I 130 j_8))), some (.int (nI s))]) (q := 60) rfl rfl rfl rfl ?_
        refine ar_iinc (v := nI (s + 1)) (ls' := [some (.ref 113), some (.int ho), some (.int k), some (.int (m + 1)), some (.int (sum + (I 130 j_8))), some (.int (nI (s + 1)))]) (q := 63) rfl rfl rfl (nI_1 _) rfl rfl ?_
        refine ar_goto (t := 8) rfl rfl ?_
        exact am_Run.weak (ls' := _) (by exact ⟨rfl, ⟨rfl, ⟨rfl, ⟨rfl, ⟨rfl, ⟨rfl, trivial⟩⟩⟩⟩⟩⟩) h
      · have h := hB c_6
        clear hA hB
        show am_Run am_X0 (am_meth d) 186 R 37 [some (.ref 113), some (.int ho), some (.int k), some (.int m), some (.int sum), some (.int (nI s))] [.int 0] (am_mk I L, 0, 0)
        refine ar_b0 am_c_ne (t := 43) (q := 40) rfl rfl rfl (fun c9 => absurd (by decide) c9) (fun _ => ?_)
        refine ar_goto (t := 60) rfl rfl ?_
        refine ar_iinc (v := nI (s + 1)) (ls' := [some (.ref 113), some (.int ho), some (.int k), some (.int m), some (.int sum), some (.int (nI (s + 1)))]) (q := 63) rfl rfl rfl (nI_1 _) rfl rfl ?_
        refine ar_goto (t := 8) rfl rfl ?_
        exact am_Run.weak (ls' := _) (by exact ⟨rfl, ⟨rfl, ⟨rfl, ⟨rfl, ⟨rfl, ⟨rfl, trivial⟩⟩⟩⟩⟩⟩) h
theorem r_M_reviewsOf_0 {d : Nat} {R : am_R} {I : Nat → Nat → Int32} {L : Nat → Nat → Int64} {w : Int32} {k : Int32} (h : am_Run am_X0 (am_meth d) 187 R 5 [some (.ref 113), some (.int w), some (.int k), some (.int 0), some (.int 0)] [] (am_mk I L, 0, 0)) : am_Run am_X0 (am_meth d) 187 R 0 [some (.ref 113), some (.int w), some (.int k), none, none] [] (am_mk I L, 0, 0) := by
  refine ar_iconst (v := 0) (q := 1) rfl rfl rfl ?_
  refine ar_istore_n (j := 3) (ls' := [some (.ref 113), some (.int w), some (.int k), some (.int 0), none]) (q := 2) rfl rfl rfl rfl rfl ?_
  refine ar_iconst (v := 0) (q := 3) rfl rfl rfl ?_
  refine ar_istore (ls' := [some (.ref 113), some (.int w), some (.int k), some (.int 0), some (.int 0)]) (q := 5) rfl rfl rfl rfl ?_
  exact am_Run.weak (ls' := _) (by exact ⟨rfl, ⟨rfl, ⟨rfl, ⟨rfl, ⟨rfl, trivial⟩⟩⟩⟩⟩) h
theorem r_M_reviewsOf_5 {d : Nat} (hd : 1 ≤ d) {R : am_R} {I : Nat → Nat → Int32} {L : Nat → Nat → Int64} {w : Int32} {k : Int32} {m : Int32} {s : Nat} (h : (((nI s) < (I 113 14) → (s < 60 ∧ ((((I 129 s) = w → (∃ j_4 : Nat, 2 * (nI s) = nI j_4 ∧ ((j_4 < 120) ∧ (((s_ct (I 130) (I 131) (I 127) (j_4 / 2) (j_4 % 2) k = true → (am_Run am_X0 (am_meth d) 187 R 5 [some (.ref 113), some (.int w), some (.int k), some (.int (m + 1)), some (.int (nI (s + 1)))] [] (am_mk I L, 0, 0))) ∧ (¬ (s_ct (I 130) (I 131) (I 127) (j_4 / 2) (j_4 % 2) k = true) → (am_Run am_X0 (am_meth d) 187 R 5 [some (.ref 113), some (.int w), some (.int k), some (.int m), some (.int (nI (s + 1)))] [] (am_mk I L, 0, 0)))))))) ∧ (¬ (I 129 s) = w → (am_Run am_X0 (am_meth d) 187 R 5 [some (.ref 113), some (.int w), some (.int k), some (.int m), some (.int (nI (s + 1)))] [] (am_mk I L, 0, 0))))))) ∧ (¬ (nI s) < (I 113 14) → (R (some (.int m)) (am_mk I L, 0, 0))))) : am_Run am_X0 (am_meth d) 187 R 5 [some (.ref 113), some (.int w), some (.int k), some (.int m), some (.int (nI s))] [] (am_mk I L, 0, 0) := by
  refine ar_iload (q := 7) rfl rfl rfl ?_
  refine ar_aload_n (j := 0) (q := 8) rfl rfl rfl rfl ?_
  refine ar_getf (v := .int (I 113 14)) (q := 11) rfl rfl mk_113 rfl rfl ?_
  obtain ⟨hA, hB⟩ := h
  refine ar_br am_d_ge (t := 46) (q := 14) rfl rfl rfl (fun c_1 => ?_) (fun c_1 => ?_)
  · have h := hB c_1
    clear hA hB
    refine ar_iload_n (j := 3) (q := 47) rfl rfl rfl rfl ?_
    exact ar_iret rfl rfl h
  · have c_1 := Classical.not_not.mp c_1
    have h := hA c_1
    clear hA hB
    refine ar_aload_n (j := 0) (q := 15) rfl rfl rfl rfl ?_
    refine ar_getf (v := .ref 129) (q := 18) rfl rfl mk_113 rfl rfl ?_
    refine ar_iload (q := 20) rfl rfl rfl ?_
    obtain ⟨hx_2, h⟩ := h
    refine ar_iald (v := I 129 s) (q := 21) rfl mk_129 (am_inE rfl hx_2 (by decide)) (am_clE rfl hx_2 (by decide)) rfl ?_
    refine ar_iload_n (j := 1) (q := 22) rfl rfl rfl rfl ?_
    obtain ⟨hA, hB⟩ := h
    refine ar_br am_c_ne (t := 40) (q := 25) rfl rfl rfl (fun c_3 => ?_) (fun c_3 => ?_)
    · have h := hB c_3
      clear hA hB
      refine ar_iinc (v := nI (s + 1)) (ls' := [some (.ref 113), some (.int w), some (.int k), some (.int m), some (.int (nI (s + 1)))]) (q := 43) rfl rfl rfl (nI_1 _) rfl rfl ?_
      refine ar_goto (t := 5) rfl rfl ?_
      exact am_Run.weak (ls' := _) (by exact ⟨rfl, ⟨rfl, ⟨rfl, ⟨rfl, ⟨rfl, trivial⟩⟩⟩⟩⟩) h
    · have c_3 := Classical.not_not.mp c_3
      have h := hA c_3
      clear hA hB
      refine ar_aload_n (j := 0) (q := 26) rfl rfl rfl rfl ?_
      refine ar_iconst (v := 2) (q := 27) rfl rfl rfl ?_
      refine ar_iload (q := 29) rfl rfl rfl ?_
      refine ar_ib (i := .imul) (z := 2 * (nI s)) (q := 30) rfl rfl rfl rfl rfl ?_
      refine ar_iload_n (j := 2) (q := 31) rfl rfl rfl rfl ?_
      refine ar_invv (as := [.int (2 * (nI s)), .int k]) (rest := []) (b2 := (0, 0)) (b3 := (0, 0)) (q := 34) rfl rfl rfl rfl mk_113 rfl rfl rfl rfl rfl ?_
      obtain ⟨j_4, hi_5, h⟩ := h
      obtain ⟨hp_7, h⟩ := h
      obtain ⟨hA, hB⟩ := h
      refine ok_M_counts (by omega) hi_5 hp_7 (fun c_6 => ?_) (fun c_6 => ?_)
      · have h := hA c_6
        clear hA hB
        show am_Run am_X0 (am_meth d) 187 R 34 [some (.ref 113), some (.int w), some (.int k), some (.int m), some (.int (nI s))] [.int 1] (am_mk I L, 0, 0)
        refine ar_b0 am_c_eq (t := 40) (q := 37) rfl rfl rfl (fun c9 => absurd c9 (by decide)) (fun _ => ?_)
        refine ar_iinc (v := m + 1) (ls' := [some (.ref 113), some (.int w), some (.int k), some (.int (m + 1)), some (.int (nI s))]) (q := 40) rfl rfl rfl rfl rfl rfl ?_
        refine ar_iinc (v := nI (s + 1)) (ls' := [some (.ref 113), some (.int w), some (.int k), some (.int (m + 1)), some (.int (nI (s + 1)))]) (q := 43) rfl rfl rfl (nI_1 _) rfl rfl ?_
        refine ar_goto (t := 5) rfl rfl ?_
        exact am_Run.weak (ls' := _) (by exact ⟨rfl, ⟨rfl, ⟨rfl, ⟨rfl, ⟨rfl, trivial⟩⟩⟩⟩⟩) h
      · have h := hB c_6
        clear hA hB
        show am_Run am_X0 (am_meth d) 187 R 34 [some (.ref 113), some (.int w), some (.int k), some (.int m), some (.int (nI s))] [.int 0] (am_mk I L, 0, 0)
        refine ar_b0 am_c_eq (t := 40) (q := 37) rfl rfl rfl (fun _ => ?_) (fun c9 => absurd (by decide) c9)
        refine ar_iinc (v := nI (s + 1)) (ls' := [some (.ref 113), some (.int w), some (.int k), some (.int m), some (.int (nI (s + 1)))]) (q := 43) rfl rfl rfl (nI_1 _) rfl rfl ?_
        refine ar_goto (t := 5) rfl rfl ?_
        exact am_Run.weak (ls' := _) (by exact ⟨rfl, ⟨rfl, ⟨rfl, ⟨rfl, ⟨rfl, trivial⟩⟩⟩⟩⟩) h
theorem r_M_trustOf_0 {d : Nat} {R : am_R} {I : Nat → Nat → Int32} {L : Nat → Nat → Int64} {w : Int32} {k : Int32} (h : am_Run am_X0 (am_meth d) 184 R 5 [some (.ref 113), some (.int w), some (.int k), some (.int 0), some (.int 0)] [] (am_mk I L, 0, 0)) : am_Run am_X0 (am_meth d) 184 R 0 [some (.ref 113), some (.int w), some (.int k), none, none] [] (am_mk I L, 0, 0) := by
  refine ar_iconst (v := 0) (q := 1) rfl rfl rfl ?_
  refine ar_istore_n (j := 3) (ls' := [some (.ref 113), some (.int w), some (.int k), some (.int 0), none]) (q := 2) rfl rfl rfl rfl rfl ?_
  refine ar_iconst (v := 0) (q := 3) rfl rfl rfl ?_
  refine ar_istore (ls' := [some (.ref 113), some (.int w), some (.int k), some (.int 0), some (.int 0)]) (q := 5) rfl rfl rfl rfl ?_
  exact am_Run.weak (ls' := _) (by exact ⟨rfl, ⟨rfl, ⟨rfl, ⟨rfl, ⟨rfl, trivial⟩⟩⟩⟩⟩) h
theorem r_M_trustOf_5 {d : Nat} (hd : 1 ≤ d) {R : am_R} {I : Nat → Nat → Int32} {L : Nat → Nat → Int64} {w : Int32} {k : Int32} {sum : Int32} {s : Nat} (h : (((nI s) < (I 113 14) → (s < 60 ∧ ((((I 129 s) = w → (∃ j_4 : Nat, 2 * (nI s) = nI j_4 ∧ ((j_4 < 120) ∧ (((s_ct (I 130) (I 131) (I 127) (j_4 / 2) (j_4 % 2) k = true → (∃ j_8 : Nat, j_8 < 120 ∧ 2 * (nI s) = nI j_8 ∧ (am_meth d 186 [.ref 113, .int (I 125 s), .int k] (am_mk I L, 0, 0) (am_ri (fun z_11 I_12 L_13 => am_Run am_X0 (am_meth d) 184 R 5 [some (.ref 113), some (.int w), some (.int k), some (.int (sum + ((100 * (I 130 j_8)) - z_11))), some (.int (nI (s + 1)))] [] (am_mk I_12 L_13, 0, 0)))))) ∧ (¬ (s_ct (I 130) (I 131) (I 127) (j_4 / 2) (j_4 % 2) k = true) → (am_Run am_X0 (am_meth d) 184 R 5 [some (.ref 113), some (.int w), some (.int k), some (.int sum), some (.int (nI (s + 1)))] [] (am_mk I L, 0, 0)))))))) ∧ (¬ (I 129 s) = w → (am_Run am_X0 (am_meth d) 184 R 5 [some (.ref 113), some (.int w), some (.int k), some (.int sum), some (.int (nI (s + 1)))] [] (am_mk I L, 0, 0))))))) ∧ (¬ (nI s) < (I 113 14) → (am_meth d 187 [.ref 113, .int w, .int k] (am_mk I L, 0, 0) (am_ri (fun z_14 I_15 L_16 => ¬ z_14 + 1 = 0 ∧ (R (some (.int (sum / (z_14 + 1)))) (am_mk I_15 L_16, 0, 0)))))))) : am_Run am_X0 (am_meth d) 184 R 5 [some (.ref 113), some (.int w), some (.int k), some (.int sum), some (.int (nI s))] [] (am_mk I L, 0, 0) := by
  refine ar_iload (q := 7) rfl rfl rfl ?_
  refine ar_aload_n (j := 0) (q := 8) rfl rfl rfl rfl ?_
  refine ar_getf (v := .int (I 113 14)) (q := 11) rfl rfl mk_113 rfl rfl ?_
  obtain ⟨hA, hB⟩ := h
  refine ar_br am_d_ge (t := 71) (q := 14) rfl rfl rfl (fun c_1 => ?_) (fun c_1 => ?_)
  · have h := hB c_1
    clear hA hB
    refine ar_iload_n (j := 3) (q := 72) rfl rfl rfl rfl ?_
    refine ar_aload_n (j := 0) (q := 73) rfl rfl rfl rfl ?_
    refine ar_iload_n (j := 1) (q := 74) rfl rfl rfl rfl ?_
    refine ar_iload_n (j := 2) (q := 75) rfl rfl rfl rfl ?_
    refine ar_invv (as := [.int w, .int k]) (rest := [.int sum]) (b2 := (0, 0)) (b3 := (0, 0)) (q := 78) rfl rfl rfl rfl mk_113 rfl rfl rfl rfl rfl ?_
    refine am_meth_mono d _ _ _ _ _ (fun v9 m9 h9 => ?_) h
    obtain ⟨z_14, I_15, L_16, rfl, rfl, h⟩ := h9
    show am_Run am_X0 (am_meth d) 184 R 78 [some (.ref 113), some (.int w), some (.int k), some (.int sum), some (.int (nI s))] [.int z_14, .int sum] (am_mk I_15 L_16, 0, 0)
    refine ar_iconst (v := 1) (q := 79) rfl rfl rfl ?_
    refine ar_ib (i := .iadd) (z := z_14 + 1) (q := 80) rfl rfl rfl rfl rfl ?_
    obtain ⟨hz_17, h⟩ := h
    refine ar_idiv (q := 81) rfl hz_17 rfl ?_
    exact ar_iret rfl rfl h
  · have c_1 := Classical.not_not.mp c_1
    have h := hA c_1
    clear hA hB
    refine ar_aload_n (j := 0) (q := 15) rfl rfl rfl rfl ?_
    refine ar_getf (v := .ref 129) (q := 18) rfl rfl mk_113 rfl rfl ?_
    refine ar_iload (q := 20) rfl rfl rfl ?_
    obtain ⟨hx_2, h⟩ := h
    refine ar_iald (v := I 129 s) (q := 21) rfl mk_129 (am_inE rfl hx_2 (by decide)) (am_clE rfl hx_2 (by decide)) rfl ?_
    refine ar_iload_n (j := 1) (q := 22) rfl rfl rfl rfl ?_
    obtain ⟨hA, hB⟩ := h
    refine ar_br am_c_ne (t := 65) (q := 25) rfl rfl rfl (fun c_3 => ?_) (fun c_3 => ?_)
    · have h := hB c_3
      clear hA hB
      refine ar_iinc (v := nI (s + 1)) (ls' := [some (.ref 113), some (.int w), some (.int k), some (.int sum), some (.int (nI (s + 1)))]) (q := 68) rfl rfl rfl (nI_1 _) rfl rfl ?_
      refine ar_goto (t := 5) rfl rfl ?_
      exact am_Run.weak (ls' := _) (by exact ⟨rfl, ⟨rfl, ⟨rfl, ⟨rfl, ⟨rfl, trivial⟩⟩⟩⟩⟩) h
    · have c_3 := Classical.not_not.mp c_3
      have h := hA c_3
      clear hA hB
      refine ar_aload_n (j := 0) (q := 26) rfl rfl rfl rfl ?_
      refine ar_iconst (v := 2) (q := 27) rfl rfl rfl ?_
      refine ar_iload (q := 29) rfl rfl rfl ?_
      refine ar_ib (i := .imul) (z := 2 * (nI s)) (q := 30) rfl rfl rfl rfl rfl ?_
      refine ar_iload_n (j := 2) (q := 31) rfl rfl rfl rfl ?_
      refine ar_invv (as := [.int (2 * (nI s)), .int k]) (rest := []) (b2 := (0, 0)) (b3 := (0, 0)) (q := 34) rfl rfl rfl rfl mk_113 rfl rfl rfl rfl rfl ?_
      obtain ⟨j_4, hi_5, h⟩ := h
      obtain ⟨hp_7, h⟩ := h
      obtain ⟨hA, hB⟩ := h
      refine ok_M_counts (by omega) hi_5 hp_7 (fun c_6 => ?_) (fun c_6 => ?_)
      · have h := hA c_6
        clear hA hB
        show am_Run am_X0 (am_meth d) 184 R 34 [some (.ref 113), some (.int w), some (.int k), some (.int sum), some (.int (nI s))] [.int 1] (am_mk I L, 0, 0)
        refine ar_b0 am_c_eq (t := 65) (q := 37) rfl rfl rfl (fun c9 => absurd c9 (by decide)) (fun _ => ?_)
        refine ar_iload_n (j := 3) (q := 38) rfl rfl rfl rfl ?_
        refine ar_bipush (v := 100) (q := 40) rfl rfl rfl ?_
        refine ar_aload_n (j := 0) (q := 41) rfl rfl rfl rfl ?_
        refine ar_getf (v := .ref 130) (q := 44) rfl rfl mk_113 rfl rfl ?_
        refine ar_iconst (v := 2) (q := 45) rfl rfl rfl ?_
        refine ar_iload (q := 47) rfl rfl rfl ?_
        refine ar_ib (i := .imul) (z := 2 * (nI s)) (q := 48) rfl rfl rfl rfl rfl ?_
        obtain ⟨j_8, hx_9, hi_10, h⟩ := h
        refine ar_iald (v := I 130 j_8) (q := 49) rfl mk_130 (am_inE hi_10 hx_9 (by decide)) (am_clE hi_10 hx_9 (by decide)) rfl ?_
        refine ar_ib (i := .imul) (z := 100 * (I 130 j_8)) (q := 50) rfl rfl rfl rfl rfl ?_
        refine ar_aload_n (j := 0) (q := 51) rfl rfl rfl rfl ?_
        refine ar_aload_n (j := 0) (q := 52) rfl rfl rfl rfl ?_
        refine ar_getf (v := .ref 125) (q := 55) rfl rfl mk_113 rfl rfl ?_
        refine ar_iload (q := 57) rfl rfl rfl ?_
        refine ar_iald (v := I 125 s) (q := 58) rfl mk_125 (am_inE rfl hx_2 (by decide)) (am_clE rfl hx_2 (by decide)) rfl ?_
        refine ar_iload_n (j := 2) (q := 59) rfl rfl rfl rfl ?_
        refine ar_invv (as := [.int (I 125 s), .int k]) (rest := [.int (100 * (I 130 j_8)), .int sum]) (b2 := (0, 0)) (b3 := (0, 0)) (q := 62) rfl rfl rfl rfl mk_113 rfl rfl rfl rfl rfl ?_
        refine am_meth_mono d _ _ _ _ _ (fun v9 m9 h9 => ?_) h
        obtain ⟨z_11, I_12, L_13, rfl, rfl, h⟩ := h9
        show am_Run am_X0 (am_meth d) 184 R 62 [some (.ref 113), some (.int w), some (.int k), some (.int sum), some (.int (nI s))] [.int z_11, .int (100 * (I 130 j_8)), .int sum] (am_mk I_12 L_13, 0, 0)
        refine ar_ib (i := .isub) (z := (100 * (I 130 j_8)) - z_11) (q := 63) rfl rfl rfl rfl rfl ?_
        refine ar_ib (i := .iadd) (z := sum + ((100 * (I 130 j_8)) - z_11)) (q := 64) rfl rfl rfl rfl rfl ?_
        refine ar_istore_n (j := 3) (ls' := [some (.ref 113), some (.int w), some (.int k), some (.int (sum + ((100 * (I 130 j_8)) - z_11))), some (.int (nI s))]) (q := 65) rfl rfl rfl rfl rfl ?_
        refine ar_iinc (v := nI (s + 1)) (ls' := [some (.ref 113), some (.int w), some (.int k), some (.int (sum + ((100 * (I 130 j_8)) - z_11))), some (.int (nI (s + 1)))]) (q := 68) rfl rfl rfl (nI_1 _) rfl rfl ?_
        refine ar_goto (t := 5) rfl rfl ?_
        exact am_Run.weak (ls' := _) (by exact ⟨rfl, ⟨rfl, ⟨rfl, ⟨rfl, ⟨rfl, trivial⟩⟩⟩⟩⟩) h
      · have h := hB c_6
        clear hA hB
        show am_Run am_X0 (am_meth d) 184 R 34 [some (.ref 113), some (.int w), some (.int k), some (.int sum), some (.int (nI s))] [.int 0] (am_mk I L, 0, 0)
        refine ar_b0 am_c_eq (t := 65) (q := 37) rfl rfl rfl (fun _ => ?_) (fun c9 => absurd (by decide) c9)
        refine ar_iinc (v := nI (s + 1)) (ls' := [some (.ref 113), some (.int w), some (.int k), some (.int sum), some (.int (nI (s + 1)))]) (q := 68) rfl rfl rfl (nI_1 _) rfl rfl ?_
        refine ar_goto (t := 5) rfl rfl ?_
        exact am_Run.weak (ls' := _) (by exact ⟨rfl, ⟨rfl, ⟨rfl, ⟨rfl, ⟨rfl, trivial⟩⟩⟩⟩⟩) h
theorem r_H_review_0 {d : Nat} (hd : 2 ≤ d) {R : am_R} {I : Nat → Nat → Int32} {L : Nat → Nat → Int64} {s : Int32} {a : Int32} {x : Int32} (h : ((0 ≤ s ∧ s < I 66 1 → (((a = 0 → (∃ j_3 : Nat, s = nI j_3 ∧ ((j_3 < 60) ∧ ((((((I 69 j_3 < I 66 0 ∧ I 66 0 ≤ I 69 j_3 + 30) ∧ I 70 j_3 = 1) ∧ I 83 j_3 = 1501) → (((x < 1 → (R (some (.int (-4 : Int32))) (am_mk (am_rf I 4) L, 0, 0))) ∧ ((¬ x < 1 ∧ 5 < x) → (R (some (.int (-6 : Int32))) (am_mk (am_rf I 6) L, 0, 0))) ∧ ((¬ x < 1 ∧ ¬ 5 < x) → (∃ j_8 : Nat, s = nI j_8 ∧ ((j_8 < 60) ∧ (∃ j_11 : Nat, s = nI j_11 ∧ ((j_11 < 60) ∧ (((am_cg (am_ra I 80 83 j_8 x) 83 82 j_11 ((am_ra I 80 83 j_8 x) 66 0) → (R (some (.int 1)) (am_mk (am_ra I 80 83 j_8 x) L, 0, 0))) ∧ (¬ (am_cg (am_ra I 80 83 j_8 x) 83 82 j_11 ((am_ra I 80 83 j_8 x) 66 0)) → (R (some (.int 0)) (am_mk (am_ra I 80 83 j_8 x) L, 0, 0))))))))))))) ∧ (¬ ((((I 69 j_3 < I 66 0 ∧ I 66 0 ≤ I 69 j_3 + 30) ∧ I 70 j_3 = 1) ∧ I 83 j_3 = 1501)) → (R (some (.int (-3 : Int32))) (am_mk (am_rf I 3) L, 0, 0)))))))) ∧ (¬ a = 0 → (∃ j_15 : Nat, s = nI j_15 ∧ ((j_15 < 60) ∧ ((((((I 69 j_15 < I 66 0 ∧ I 66 0 ≤ I 69 j_15 + 30) ∧ I 70 j_15 = 1) ∧ I 82 j_15 = 1501) → (((x < 1 → (R (some (.int (-4 : Int32))) (am_mk (am_rf I 4) L, 0, 0))) ∧ ((¬ x < 1 ∧ 5 < x) → (R (some (.int (-6 : Int32))) (am_mk (am_rf I 6) L, 0, 0))) ∧ ((¬ x < 1 ∧ ¬ 5 < x) → (∃ j_20 : Nat, s = nI j_20 ∧ ((j_20 < 60) ∧ (∃ j_23 : Nat, s = nI j_23 ∧ ((j_23 < 60) ∧ (((am_cg (am_ra I 79 82 j_20 x) 82 83 j_23 ((am_ra I 79 82 j_20 x) 66 0) → (R (some (.int 1)) (am_mk (am_ra I 79 82 j_20 x) L, 0, 0))) ∧ (¬ (am_cg (am_ra I 79 82 j_20 x) 82 83 j_23 ((am_ra I 79 82 j_20 x) 66 0)) → (R (some (.int 0)) (am_mk (am_ra I 79 82 j_20 x) L, 0, 0))))))))))))) ∧ (¬ ((((I 69 j_15 < I 66 0 ∧ I 66 0 ≤ I 69 j_15 + 30) ∧ I 70 j_15 = 1) ∧ I 82 j_15 = 1501)) → (R (some (.int (-3 : Int32))) (am_mk (am_rf I 3) L, 0, 0))))))))))) ∧ (¬ (0 ≤ s ∧ s < I 66 1) → (R (some (.int (-1 : Int32))) (am_mk (am_rf I 1) L, 0, 0))))) : am_Run am_X0 (am_meth d) 19 R 0 [some (.ref 0), some (.int s), some (.int a), some (.int x), none, none] [] (am_mk I L, 0, 0) := by
  refine ar_aload_n (j := 0) (q := 1) rfl rfl rfl rfl ?_
  refine ar_getf (v := .ref 66) (q := 4) rfl rfl mk_0 rfl rfl ?_
  refine ar_iload_n (j := 1) (q := 5) rfl rfl rfl rfl ?_
  refine ar_invv (as := [.int s]) (rest := []) (b2 := (0, 0)) (b3 := (0, 0)) (q := 8) rfl rfl rfl rfl mk_66 rfl rfl rfl rfl rfl ?_
  obtain ⟨hA, hB⟩ := h
  refine ok_St_has (by omega)  (fun c_1 => ?_) (fun c_1 => ?_)
  · have h := hA c_1
    clear hA hB
    show am_Run am_X0 (am_meth d) 19 R 8 [some (.ref 0), some (.int s), some (.int a), some (.int x), none, none] [.int 1] (am_mk I L, 0, 0)
    refine ar_b0 am_c_ne (t := 17) (q := 11) rfl rfl rfl (fun _ => ?_) (fun c9 => absurd (by decide) c9)
    refine ar_iload_n (j := 2) (q := 18) rfl rfl rfl rfl ?_
    obtain ⟨hA, hB⟩ := h
    refine ar_b0 am_c_eq (t := 25) (q := 21) rfl rfl rfl (fun c_2 => ?_) (fun c_2 => ?_)
    · have h := hA c_2
      clear hA hB
      refine ar_iconst (v := 1) (q := 26) rfl rfl rfl ?_
      refine ar_istore (ls' := [some (.ref 0), some (.int s), some (.int a), some (.int x), some (.int 1), none]) (q := 28) rfl rfl rfl rfl ?_
      refine ar_aload_n (j := 0) (q := 29) rfl rfl rfl rfl ?_
      refine ar_getf (v := .ref 74) (q := 32) rfl rfl mk_0 rfl rfl ?_
      refine ar_iload (q := 34) rfl rfl rfl ?_
      refine ar_iload_n (j := 1) (q := 35) rfl rfl rfl rfl ?_
      refine ar_invv (as := [.int 1, .int s]) (rest := []) (b2 := (0, 0)) (b3 := (0, 0)) (q := 38) rfl rfl rfl rfl mk_74 rfl rfl rfl rfl rfl ?_
      obtain ⟨j_3, hi_4, h⟩ := h
      obtain ⟨hp_6, h⟩ := h
      obtain ⟨hA, hB⟩ := h
      refine ok_Re_mayBeTold1 (by omega) hi_4 hp_6 (fun c_5 => ?_) (fun c_5 => ?_)
      · have h := hA c_5
        clear hA hB
        show am_Run am_X0 (am_meth d) 19 R 38 [some (.ref 0), some (.int s), some (.int a), some (.int x), some (.int 1), none] [.int 1] (am_mk I L, 0, 0)
        refine ar_b0 am_c_ne (t := 48) (q := 41) rfl rfl rfl (fun _ => ?_) (fun c9 => absurd (by decide) c9)
        refine ar_iload_n (j := 3) (q := 49) rfl rfl rfl rfl ?_
        refine ar_iconst (v := 1) (q := 50) rfl rfl rfl ?_
        refine ar_iconst (v := 5) (q := 51) rfl rfl rfl ?_
        refine ar_invs (as := [.int x, .int 1, .int 5]) (rest := []) (b2 := (0, 0)) (b3 := (0, 0)) (q := 54) rfl rfl rfl rfl rfl rfl rfl rfl rfl ?_
        obtain ⟨hC0, hC1, hC2⟩ := h
        refine ok_bound (by omega)  (fun c_7 => ?_) (fun c_7 => ?_) (fun c_7 => ?_)
        · have h := hC0 c_7
          clear hC0 hC1 hC2
          show am_Run am_X0 (am_meth d) 19 R 54 [some (.ref 0), some (.int s), some (.int a), some (.int x), some (.int 1), none] [.int (-4 : Int32)] (am_mk I L, 0, 0)
          refine ar_istore (ls' := [some (.ref 0), some (.int s), some (.int a), some (.int x), some (.int 1), some (.int (-4 : Int32))]) (q := 56) rfl rfl rfl rfl ?_
          refine ar_iload (q := 58) rfl rfl rfl ?_
          refine ar_b0 am_c_eq (t := 68) (q := 61) rfl rfl rfl (fun c9 => absurd c9 (by decide)) (fun _ => ?_)
          refine ar_aload_n (j := 0) (q := 62) rfl rfl rfl rfl ?_
          refine ar_iload (q := 64) rfl rfl rfl ?_
          refine ar_invv (as := [.int (-4 : Int32)]) (rest := []) (b2 := (0, 0)) (b3 := (0, 0)) (q := 67) rfl rfl rfl rfl mk_0 rfl rfl rfl rfl rfl ?_
          refine ok_refuse (j := 4) (by omega) (by decide) (by decide) ?_
          show am_Run am_X0 (am_meth d) 19 R 67 [some (.ref 0), some (.int s), some (.int a), some (.int x), some (.int 1), some (.int (-4 : Int32))] [.int (-4 : Int32)] (am_mk (am_rf I 4) L, 0, 0)
          exact ar_iret rfl rfl h
        · have h := hC1 c_7
          clear hC0 hC1 hC2
          show am_Run am_X0 (am_meth d) 19 R 54 [some (.ref 0), some (.int s), some (.int a), some (.int x), some (.int 1), none] [.int (-6 : Int32)] (am_mk I L, 0, 0)
          refine ar_istore (ls' := [some (.ref 0), some (.int s), some (.int a), some (.int x), some (.int 1), some (.int (-6 : Int32))]) (q := 56) rfl rfl rfl rfl ?_
          refine ar_iload (q := 58) rfl rfl rfl ?_
          refine ar_b0 am_c_eq (t := 68) (q := 61) rfl rfl rfl (fun c9 => absurd c9 (by decide)) (fun _ => ?_)
          refine ar_aload_n (j := 0) (q := 62) rfl rfl rfl rfl ?_
          refine ar_iload (q := 64) rfl rfl rfl ?_
          refine ar_invv (as := [.int (-6 : Int32)]) (rest := []) (b2 := (0, 0)) (b3 := (0, 0)) (q := 67) rfl rfl rfl rfl mk_0 rfl rfl rfl rfl rfl ?_
          refine ok_refuse (j := 6) (by omega) (by decide) (by decide) ?_
          show am_Run am_X0 (am_meth d) 19 R 67 [some (.ref 0), some (.int s), some (.int a), some (.int x), some (.int 1), some (.int (-6 : Int32))] [.int (-6 : Int32)] (am_mk (am_rf I 6) L, 0, 0)
          exact ar_iret rfl rfl h
        · have h := hC2 c_7
          clear hC0 hC1 hC2
          show am_Run am_X0 (am_meth d) 19 R 54 [some (.ref 0), some (.int s), some (.int a), some (.int x), some (.int 1), none] [.int 0] (am_mk I L, 0, 0)
          refine ar_istore (ls' := [some (.ref 0), some (.int s), some (.int a), some (.int x), some (.int 1), some (.int 0)]) (q := 56) rfl rfl rfl rfl ?_
          refine ar_iload (q := 58) rfl rfl rfl ?_
          refine ar_b0 am_c_eq (t := 68) (q := 61) rfl rfl rfl (fun _ => ?_) (fun c9 => absurd (by decide) c9)
          refine ar_aload_n (j := 0) (q := 69) rfl rfl rfl rfl ?_
          refine ar_getf (v := .ref 74) (q := 72) rfl rfl mk_0 rfl rfl ?_
          refine ar_iload (q := 74) rfl rfl rfl ?_
          refine ar_iload_n (j := 1) (q := 75) rfl rfl rfl rfl ?_
          refine ar_iload_n (j := 3) (q := 76) rfl rfl rfl rfl ?_
          refine ar_invv (as := [.int 1, .int s, .int x]) (rest := []) (b2 := (0, 0)) (b3 := (0, 0)) (q := 79) rfl rfl rfl rfl mk_74 rfl rfl rfl rfl rfl ?_
          obtain ⟨j_8, hi_9, h⟩ := h
          obtain ⟨hp_10, h⟩ := h
          refine ok_Re_add1 (by omega) hi_9 hp_10 ?_
          show am_Run am_X0 (am_meth d) 19 R 79 [some (.ref 0), some (.int s), some (.int a), some (.int x), some (.int 1), some (.int 0)] [] (am_mk (am_ra I 80 83 j_8 x) L, 0, 0)
          refine ar_aload_n (j := 0) (q := 80) rfl rfl rfl rfl ?_
          refine ar_getf (v := .ref 74) (q := 83) rfl rfl mk_0 rfl rfl ?_
          refine ar_iload (q := 85) rfl rfl rfl ?_
          refine ar_iload_n (j := 1) (q := 86) rfl rfl rfl rfl ?_
          refine ar_aload_n (j := 0) (q := 87) rfl rfl rfl rfl ?_
          refine ar_getf (v := .ref 66) (q := 90) rfl rfl mk_0 rfl rfl ?_
          refine ar_getf (v := .int ((am_ra I 80 83 j_8 x) 66 0)) (q := 93) rfl rfl mk_66 rfl rfl ?_
          refine ar_invv (as := [.int 1, .int s, .int ((am_ra I 80 83 j_8 x) 66 0)]) (rest := []) (b2 := (0, 0)) (b3 := (0, 0)) (q := 96) rfl rfl rfl rfl mk_74 rfl rfl rfl rfl rfl ?_
          obtain ⟨j_11, hi_12, h⟩ := h
          obtain ⟨hp_14, h⟩ := h
          obtain ⟨hA, hB⟩ := h
          refine ok_Re_isCounting1 (by omega) hi_12 hp_14 (fun c_13 => ?_) (fun c_13 => ?_)
          · have h := hA c_13
            clear hA hB
            show am_Run am_X0 (am_meth d) 19 R 96 [some (.ref 0), some (.int s), some (.int a), some (.int x), some (.int 1), some (.int 0)] [.int 1] (am_mk (am_ra I 80 83 j_8 x) L, 0, 0)
            refine ar_b0 am_c_eq (t := 103) (q := 99) rfl rfl rfl (fun c9 => absurd c9 (by decide)) (fun _ => ?_)
            refine ar_iconst (v := 1) (q := 100) rfl rfl rfl ?_
            refine ar_goto (t := 104) rfl rfl ?_
            exact ar_iret rfl rfl h
          · have h := hB c_13
            clear hA hB
            show am_Run am_X0 (am_meth d) 19 R 96 [some (.ref 0), some (.int s), some (.int a), some (.int x), some (.int 1), some (.int 0)] [.int 0] (am_mk (am_ra I 80 83 j_8 x) L, 0, 0)
            refine ar_b0 am_c_eq (t := 103) (q := 99) rfl rfl rfl (fun _ => ?_) (fun c9 => absurd (by decide) c9)
            refine ar_iconst (v := 0) (q := 104) rfl rfl rfl ?_
            exact ar_iret rfl rfl h
      · have h := hB c_5
        clear hA hB
        show am_Run am_X0 (am_meth d) 19 R 38 [some (.ref 0), some (.int s), some (.int a), some (.int x), some (.int 1), none] [.int 0] (am_mk I L, 0, 0)
        refine ar_b0 am_c_ne (t := 48) (q := 41) rfl rfl rfl (fun c9 => absurd (by decide) c9) (fun _ => ?_)
        refine ar_aload_n (j := 0) (q := 42) rfl rfl rfl rfl ?_
        refine ar_bipush (v := (-3 : Int32)) (q := 44) rfl rfl rfl ?_
        refine ar_invv (as := [.int (-3 : Int32)]) (rest := []) (b2 := (0, 0)) (b3 := (0, 0)) (q := 47) rfl rfl rfl rfl mk_0 rfl rfl rfl rfl rfl ?_
        refine ok_refuse (j := 3) (by omega) (by decide) (by decide) ?_
        show am_Run am_X0 (am_meth d) 19 R 47 [some (.ref 0), some (.int s), some (.int a), some (.int x), some (.int 1), none] [.int (-3 : Int32)] (am_mk (am_rf I 3) L, 0, 0)
        exact ar_iret rfl rfl h
    · have h := hB c_2
      clear hA hB
      refine ar_iconst (v := 0) (q := 22) rfl rfl rfl ?_
      refine ar_goto (t := 26) rfl rfl ?_
      refine ar_istore (ls' := [some (.ref 0), some (.int s), some (.int a), some (.int x), some (.int 0), none]) (q := 28) rfl rfl rfl rfl ?_
      refine ar_aload_n (j := 0) (q := 29) rfl rfl rfl rfl ?_
      refine ar_getf (v := .ref 74) (q := 32) rfl rfl mk_0 rfl rfl ?_
      refine ar_iload (q := 34) rfl rfl rfl ?_
      refine ar_iload_n (j := 1) (q := 35) rfl rfl rfl rfl ?_
      refine ar_invv (as := [.int 0, .int s]) (rest := []) (b2 := (0, 0)) (b3 := (0, 0)) (q := 38) rfl rfl rfl rfl mk_74 rfl rfl rfl rfl rfl ?_
      obtain ⟨j_15, hi_16, h⟩ := h
      obtain ⟨hp_18, h⟩ := h
      obtain ⟨hA, hB⟩ := h
      refine ok_Re_mayBeTold0 (by omega) hi_16 hp_18 (fun c_17 => ?_) (fun c_17 => ?_)
      · have h := hA c_17
        clear hA hB
        show am_Run am_X0 (am_meth d) 19 R 38 [some (.ref 0), some (.int s), some (.int a), some (.int x), some (.int 0), none] [.int 1] (am_mk I L, 0, 0)
        refine ar_b0 am_c_ne (t := 48) (q := 41) rfl rfl rfl (fun _ => ?_) (fun c9 => absurd (by decide) c9)
        refine ar_iload_n (j := 3) (q := 49) rfl rfl rfl rfl ?_
        refine ar_iconst (v := 1) (q := 50) rfl rfl rfl ?_
        refine ar_iconst (v := 5) (q := 51) rfl rfl rfl ?_
        refine ar_invs (as := [.int x, .int 1, .int 5]) (rest := []) (b2 := (0, 0)) (b3 := (0, 0)) (q := 54) rfl rfl rfl rfl rfl rfl rfl rfl rfl ?_
        obtain ⟨hC0, hC1, hC2⟩ := h
        refine ok_bound (by omega)  (fun c_19 => ?_) (fun c_19 => ?_) (fun c_19 => ?_)
        · have h := hC0 c_19
          clear hC0 hC1 hC2
          show am_Run am_X0 (am_meth d) 19 R 54 [some (.ref 0), some (.int s), some (.int a), some (.int x), some (.int 0), none] [.int (-4 : Int32)] (am_mk I L, 0, 0)
          refine ar_istore (ls' := [some (.ref 0), some (.int s), some (.int a), some (.int x), some (.int 0), some (.int (-4 : Int32))]) (q := 56) rfl rfl rfl rfl ?_
          refine ar_iload (q := 58) rfl rfl rfl ?_
          refine ar_b0 am_c_eq (t := 68) (q := 61) rfl rfl rfl (fun c9 => absurd c9 (by decide)) (fun _ => ?_)
          refine ar_aload_n (j := 0) (q := 62) rfl rfl rfl rfl ?_
          refine ar_iload (q := 64) rfl rfl rfl ?_
          refine ar_invv (as := [.int (-4 : Int32)]) (rest := []) (b2 := (0, 0)) (b3 := (0, 0)) (q := 67) rfl rfl rfl rfl mk_0 rfl rfl rfl rfl rfl ?_
          refine ok_refuse (j := 4) (by omega) (by decide) (by decide) ?_
          show am_Run am_X0 (am_meth d) 19 R 67 [some (.ref 0), some (.int s), some (.int a), some (.int x), some (.int 0), some (.int (-4 : Int32))] [.int (-4 : Int32)] (am_mk (am_rf I 4) L, 0, 0)
          exact ar_iret rfl rfl h
        · have h := hC1 c_19
          clear hC0 hC1 hC2
          show am_Run am_X0 (am_meth d) 19 R 54 [some (.ref 0), some (.int s), some (.int a), some (.int x), some (.int 0), none] [.int (-6 : Int32)] (am_mk I L, 0, 0)
          refine ar_istore (ls' := [some (.ref 0), some (.int s), some (.int a), some (.int x), some (.int 0), some (.int (-6 : Int32))]) (q := 56) rfl rfl rfl rfl ?_
          refine ar_iload (q := 58) rfl rfl rfl ?_
          refine ar_b0 am_c_eq (t := 68) (q := 61) rfl rfl rfl (fun c9 => absurd c9 (by decide)) (fun _ => ?_)
          refine ar_aload_n (j := 0) (q := 62) rfl rfl rfl rfl ?_
          refine ar_iload (q := 64) rfl rfl rfl ?_
          refine ar_invv (as := [.int (-6 : Int32)]) (rest := []) (b2 := (0, 0)) (b3 := (0, 0)) (q := 67) rfl rfl rfl rfl mk_0 rfl rfl rfl rfl rfl ?_
          refine ok_refuse (j := 6) (by omega) (by decide) (by decide) ?_
          show am_Run am_X0 (am_meth d) 19 R 67 [some (.ref 0), some (.int s), some (.int a), some (.int x), some (.int 0), some (.int (-6 : Int32))] [.int (-6 : Int32)] (am_mk (am_rf I 6) L, 0, 0)
          exact ar_iret rfl rfl h
        · have h := hC2 c_19
          clear hC0 hC1 hC2
          show am_Run am_X0 (am_meth d) 19 R 54 [some (.ref 0), some (.int s), some (.int a), some (.int x), some (.int 0), none] [.int 0] (am_mk I L, 0, 0)
          refine ar_istore (ls' := [some (.ref 0), some (.int s), some (.int a), some (.int x), some (.int 0), some (.int 0)]) (q := 56) rfl rfl rfl rfl ?_
          refine ar_iload (q := 58) rfl rfl rfl ?_
          refine ar_b0 am_c_eq (t := 68) (q := 61) rfl rfl rfl (fun _ => ?_) (fun c9 => absurd (by decide) c9)
          refine ar_aload_n (j := 0) (q := 69) rfl rfl rfl rfl ?_
          refine ar_getf (v := .ref 74) (q := 72) rfl rfl mk_0 rfl rfl ?_
          refine ar_iload (q := 74) rfl rfl rfl ?_
          refine ar_iload_n (j := 1) (q := 75) rfl rfl rfl rfl ?_
          refine ar_iload_n (j := 3) (q := 76) rfl rfl rfl rfl ?_
          refine ar_invv (as := [.int 0, .int s, .int x]) (rest := []) (b2 := (0, 0)) (b3 := (0, 0)) (q := 79) rfl rfl rfl rfl mk_74 rfl rfl rfl rfl rfl ?_
          obtain ⟨j_20, hi_21, h⟩ := h
          obtain ⟨hp_22, h⟩ := h
          refine ok_Re_add0 (by omega) hi_21 hp_22 ?_
          show am_Run am_X0 (am_meth d) 19 R 79 [some (.ref 0), some (.int s), some (.int a), some (.int x), some (.int 0), some (.int 0)] [] (am_mk (am_ra I 79 82 j_20 x) L, 0, 0)
          refine ar_aload_n (j := 0) (q := 80) rfl rfl rfl rfl ?_
          refine ar_getf (v := .ref 74) (q := 83) rfl rfl mk_0 rfl rfl ?_
          refine ar_iload (q := 85) rfl rfl rfl ?_
          refine ar_iload_n (j := 1) (q := 86) rfl rfl rfl rfl ?_
          refine ar_aload_n (j := 0) (q := 87) rfl rfl rfl rfl ?_
          refine ar_getf (v := .ref 66) (q := 90) rfl rfl mk_0 rfl rfl ?_
          refine ar_getf (v := .int ((am_ra I 79 82 j_20 x) 66 0)) (q := 93) rfl rfl mk_66 rfl rfl ?_
          refine ar_invv (as := [.int 0, .int s, .int ((am_ra I 79 82 j_20 x) 66 0)]) (rest := []) (b2 := (0, 0)) (b3 := (0, 0)) (q := 96) rfl rfl rfl rfl mk_74 rfl rfl rfl rfl rfl ?_
          obtain ⟨j_23, hi_24, h⟩ := h
          obtain ⟨hp_26, h⟩ := h
          obtain ⟨hA, hB⟩ := h
          refine ok_Re_isCounting0 (by omega) hi_24 hp_26 (fun c_25 => ?_) (fun c_25 => ?_)
          · have h := hA c_25
            clear hA hB
            show am_Run am_X0 (am_meth d) 19 R 96 [some (.ref 0), some (.int s), some (.int a), some (.int x), some (.int 0), some (.int 0)] [.int 1] (am_mk (am_ra I 79 82 j_20 x) L, 0, 0)
            refine ar_b0 am_c_eq (t := 103) (q := 99) rfl rfl rfl (fun c9 => absurd c9 (by decide)) (fun _ => ?_)
            refine ar_iconst (v := 1) (q := 100) rfl rfl rfl ?_
            refine ar_goto (t := 104) rfl rfl ?_
            exact ar_iret rfl rfl h
          · have h := hB c_25
            clear hA hB
            show am_Run am_X0 (am_meth d) 19 R 96 [some (.ref 0), some (.int s), some (.int a), some (.int x), some (.int 0), some (.int 0)] [.int 0] (am_mk (am_ra I 79 82 j_20 x) L, 0, 0)
            refine ar_b0 am_c_eq (t := 103) (q := 99) rfl rfl rfl (fun _ => ?_) (fun c9 => absurd (by decide) c9)
            refine ar_iconst (v := 0) (q := 104) rfl rfl rfl ?_
            exact ar_iret rfl rfl h
      · have h := hB c_17
        clear hA hB
        show am_Run am_X0 (am_meth d) 19 R 38 [some (.ref 0), some (.int s), some (.int a), some (.int x), some (.int 0), none] [.int 0] (am_mk I L, 0, 0)
        refine ar_b0 am_c_ne (t := 48) (q := 41) rfl rfl rfl (fun c9 => absurd (by decide) c9) (fun _ => ?_)
        refine ar_aload_n (j := 0) (q := 42) rfl rfl rfl rfl ?_
        refine ar_bipush (v := (-3 : Int32)) (q := 44) rfl rfl rfl ?_
        refine ar_invv (as := [.int (-3 : Int32)]) (rest := []) (b2 := (0, 0)) (b3 := (0, 0)) (q := 47) rfl rfl rfl rfl mk_0 rfl rfl rfl rfl rfl ?_
        refine ok_refuse (j := 3) (by omega) (by decide) (by decide) ?_
        show am_Run am_X0 (am_meth d) 19 R 47 [some (.ref 0), some (.int s), some (.int a), some (.int x), some (.int 0), none] [.int (-3 : Int32)] (am_mk (am_rf I 3) L, 0, 0)
        exact ar_iret rfl rfl h
  · have h := hB c_1
    clear hA hB
    show am_Run am_X0 (am_meth d) 19 R 8 [some (.ref 0), some (.int s), some (.int a), some (.int x), none, none] [.int 0] (am_mk I L, 0, 0)
    refine ar_b0 am_c_ne (t := 17) (q := 11) rfl rfl rfl (fun c9 => absurd (by decide) c9) (fun _ => ?_)
    refine ar_aload_n (j := 0) (q := 12) rfl rfl rfl rfl ?_
    refine ar_iconst (v := (-1 : Int32)) (q := 13) rfl rfl rfl ?_
    refine ar_invv (as := [.int (-1 : Int32)]) (rest := []) (b2 := (0, 0)) (b3 := (0, 0)) (q := 16) rfl rfl rfl rfl mk_0 rfl rfl rfl rfl rfl ?_
    refine ok_refuse (j := 1) (by omega) (by decide) (by decide) ?_
    show am_Run am_X0 (am_meth d) 19 R 16 [some (.ref 0), some (.int s), some (.int a), some (.int x), none, none] [.int (-1 : Int32)] (am_mk (am_rf I 1) L, 0, 0)
    exact ar_iret rfl rfl h
theorem r_M_review_0 {d : Nat} (hd : 1 ≤ d) {R : am_R} {I : Nat → Nat → Int32} {L : Nat → Nat → Int64} {s : Int32} {a : Int32} {x : Int32} (h : ((0 ≤ s ∧ s < I 113 14 → (((a = 0 → (∃ j_3 : Nat, j_3 < 60 ∧ s = nI j_3 ∧ ((((I 128 j_3) = 1 → ((j_3 < 60) ∧ (((I 127 j_3 < I 113 0 → (∃ j_9 : Nat, j_9 < 120 ∧ (2 * s) + 1 = nI j_9 ∧ ((((I 130 j_9) ≤ 0 → ((((I 113 0) ≤ ((I 127 j_3) + 30) → (((x < 1 → (R (some (.int (-4 : Int32))) (am_mk (am_no I 4) L, 0, 0))) ∧ (¬ x < 1 → (((x ≤ 5 → (∀ I_16 : Nat → Nat → Int32, I_16 = va_up I 130 (upd (I 130) j_9 x) → (∀ I_18 : Nat → Nat → Int32, I_18 = va_up I_16 131 (upd (I_16 131) j_9 (I_16 113 0)) → ((j_9 < 120) ∧ (((s_ct (I_18 130) (I_18 131) (I_18 127) (j_9 / 2) (j_9 % 2) (I_18 113 0) = true → (R (some (.int 1)) (am_mk I_18 L, 0, 0))) ∧ (¬ (s_ct (I_18 130) (I_18 131) (I_18 127) (j_9 / 2) (j_9 % 2) (I_18 113 0) = true) → (R (some (.int 0)) (am_mk I_18 L, 0, 0))))))))) ∧ (¬ x ≤ 5 → (R (some (.int (-6 : Int32))) (am_mk (am_no I 6) L, 0, 0))))))))) ∧ (¬ (I 113 0) ≤ ((I 127 j_3) + 30) → (R (some (.int (-3 : Int32))) (am_mk (am_no I 3) L, 0, 0)))))) ∧ (¬ (I 130 j_9) ≤ 0 → (R (some (.int (-3 : Int32))) (am_mk (am_no I 3) L, 0, 0))))))) ∧ (¬ (I 127 j_3 < I 113 0) → (R (some (.int (-3 : Int32))) (am_mk (am_no I 3) L, 0, 0))))))) ∧ (¬ (I 128 j_3) = 1 → (R (some (.int (-3 : Int32))) (am_mk (am_no I 3) L, 0, 0))))))) ∧ (¬ a = 0 → (∃ j_22 : Nat, j_22 < 60 ∧ s = nI j_22 ∧ ((((I 128 j_22) = 1 → ((j_22 < 60) ∧ (((I 127 j_22 < I 113 0 → (∃ j_28 : Nat, j_28 < 120 ∧ 2 * s = nI j_28 ∧ ((((I 130 j_28) ≤ 0 → ((((I 113 0) ≤ ((I 127 j_22) + 30) → (((x < 1 → (R (some (.int (-4 : Int32))) (am_mk (am_no I 4) L, 0, 0))) ∧ (¬ x < 1 → (((x ≤ 5 → (∀ I_35 : Nat → Nat → Int32, I_35 = va_up I 130 (upd (I 130) j_28 x) → (∀ I_37 : Nat → Nat → Int32, I_37 = va_up I_35 131 (upd (I_35 131) j_28 (I_35 113 0)) → ((j_28 < 120) ∧ (((s_ct (I_37 130) (I_37 131) (I_37 127) (j_28 / 2) (j_28 % 2) (I_37 113 0) = true → (R (some (.int 1)) (am_mk I_37 L, 0, 0))) ∧ (¬ (s_ct (I_37 130) (I_37 131) (I_37 127) (j_28 / 2) (j_28 % 2) (I_37 113 0) = true) → (R (some (.int 0)) (am_mk I_37 L, 0, 0))))))))) ∧ (¬ x ≤ 5 → (R (some (.int (-6 : Int32))) (am_mk (am_no I 6) L, 0, 0))))))))) ∧ (¬ (I 113 0) ≤ ((I 127 j_22) + 30) → (R (some (.int (-3 : Int32))) (am_mk (am_no I 3) L, 0, 0)))))) ∧ (¬ (I 130 j_28) ≤ 0 → (R (some (.int (-3 : Int32))) (am_mk (am_no I 3) L, 0, 0))))))) ∧ (¬ (I 127 j_22 < I 113 0) → (R (some (.int (-3 : Int32))) (am_mk (am_no I 3) L, 0, 0))))))) ∧ (¬ (I 128 j_22) = 1 → (R (some (.int (-3 : Int32))) (am_mk (am_no I 3) L, 0, 0)))))))))) ∧ (¬ (0 ≤ s ∧ s < I 113 14) → (R (some (.int (-1 : Int32))) (am_mk (am_no I 1) L, 0, 0))))) : am_Run am_X0 (am_meth d) 200 R 0 [some (.ref 113), some (.int s), some (.int a), some (.int x), none] [] (am_mk I L, 0, 0) := by
  refine ar_aload_n (j := 0) (q := 1) rfl rfl rfl rfl ?_
  refine ar_iload_n (j := 1) (q := 2) rfl rfl rfl rfl ?_
  refine ar_invv (as := [.int s]) (rest := []) (b2 := (0, 0)) (b3 := (0, 0)) (q := 5) rfl rfl rfl rfl mk_113 rfl rfl rfl rfl rfl ?_
  obtain ⟨hA, hB⟩ := h
  refine ok_M_isStay (by omega)  (fun c_1 => ?_) (fun c_1 => ?_)
  · have h := hA c_1
    clear hA hB
    show am_Run am_X0 (am_meth d) 200 R 5 [some (.ref 113), some (.int s), some (.int a), some (.int x), none] [.int 1] (am_mk I L, 0, 0)
    refine ar_b0 am_c_ne (t := 14) (q := 8) rfl rfl rfl (fun _ => ?_) (fun c9 => absurd (by decide) c9)
    refine ar_iload_n (j := 2) (q := 15) rfl rfl rfl rfl ?_
    obtain ⟨hA, hB⟩ := h
    refine ar_b0 am_c_eq (t := 24) (q := 18) rfl rfl rfl (fun c_2 => ?_) (fun c_2 => ?_)
    · have h := hA c_2
      clear hA hB
      refine ar_iconst (v := 2) (q := 25) rfl rfl rfl ?_
      refine ar_iload_n (j := 1) (q := 26) rfl rfl rfl rfl ?_
      refine ar_ib (i := .imul) (z := 2 * s) (q := 27) rfl rfl rfl rfl rfl ?_
      refine ar_iconst (v := 1) (q := 28) rfl rfl rfl ?_
      refine ar_ib (i := .iadd) (z := (2 * s) + 1) (q := 29) rfl rfl rfl rfl rfl ?_
      refine ar_istore (ls' := [some (.ref 113), some (.int s), some (.int a), some (.int x), some (.int ((2 * s) + 1))]) (q := 31) rfl rfl rfl rfl ?_
      refine ar_aload_n (j := 0) (q := 32) rfl rfl rfl rfl ?_
      refine ar_getf (v := .ref 128) (q := 35) rfl rfl mk_113 rfl rfl ?_
      refine ar_iload_n (j := 1) (q := 36) rfl rfl rfl rfl ?_
      obtain ⟨j_3, hx_4, hi_5, h⟩ := h
      refine ar_iald (v := I 128 j_3) (q := 37) rfl mk_128 (am_inE hi_5 hx_4 (by decide)) (am_clE hi_5 hx_4 (by decide)) rfl ?_
      refine ar_iconst (v := 1) (q := 38) rfl rfl rfl ?_
      obtain ⟨hA, hB⟩ := h
      refine ar_br am_c_ne (t := 75) (q := 41) rfl rfl rfl (fun c_6 => ?_) (fun c_6 => ?_)
      · have h := hB c_6
        clear hA hB
        refine ar_aload_n (j := 0) (q := 76) rfl rfl rfl rfl ?_
        refine ar_bipush (v := (-3 : Int32)) (q := 78) rfl rfl rfl ?_
        refine ar_invv (as := [.int (-3 : Int32)]) (rest := []) (b2 := (0, 0)) (b3 := (0, 0)) (q := 81) rfl rfl rfl rfl mk_113 rfl rfl rfl rfl rfl ?_
        refine ok_no (j := 3) (by omega) (by decide) (by decide) ?_
        show am_Run am_X0 (am_meth d) 200 R 81 [some (.ref 113), some (.int s), some (.int a), some (.int x), some (.int ((2 * s) + 1))] [.int (-3 : Int32)] (am_mk (am_no I 3) L, 0, 0)
        exact ar_iret rfl rfl h
      · have c_6 := Classical.not_not.mp c_6
        have h := hA c_6
        clear hA hB
        refine ar_aload_n (j := 0) (q := 42) rfl rfl rfl rfl ?_
        refine ar_iload_n (j := 1) (q := 43) rfl rfl rfl rfl ?_
        refine ar_invv (as := [.int s]) (rest := []) (b2 := (0, 0)) (b3 := (0, 0)) (q := 46) rfl rfl rfl rfl mk_113 rfl rfl rfl rfl rfl ?_
        obtain ⟨hp_8, h⟩ := h
        obtain ⟨hA, hB⟩ := h
        refine ok_M_isOver (by omega) hi_5 hp_8 (fun c_7 => ?_) (fun c_7 => ?_)
        · have h := hA c_7
          clear hA hB
          show am_Run am_X0 (am_meth d) 200 R 46 [some (.ref 113), some (.int s), some (.int a), some (.int x), some (.int ((2 * s) + 1))] [.int 1] (am_mk I L, 0, 0)
          refine ar_b0 am_c_eq (t := 75) (q := 49) rfl rfl rfl (fun c9 => absurd c9 (by decide)) (fun _ => ?_)
          refine ar_aload_n (j := 0) (q := 50) rfl rfl rfl rfl ?_
          refine ar_getf (v := .ref 130) (q := 53) rfl rfl mk_113 rfl rfl ?_
          refine ar_iload (q := 55) rfl rfl rfl ?_
          obtain ⟨j_9, hx_10, hi_11, h⟩ := h
          refine ar_iald (v := I 130 j_9) (q := 56) rfl mk_130 (am_inE hi_11 hx_10 (by decide)) (am_clE hi_11 hx_10 (by decide)) rfl ?_
          obtain ⟨hA, hB⟩ := h
          refine ar_b0 am_d_gt (t := 75) (q := 59) rfl rfl rfl (fun c_12 => ?_) (fun c_12 => ?_)
          · have h := hB c_12
            clear hA hB
            refine ar_aload_n (j := 0) (q := 76) rfl rfl rfl rfl ?_
            refine ar_bipush (v := (-3 : Int32)) (q := 78) rfl rfl rfl ?_
            refine ar_invv (as := [.int (-3 : Int32)]) (rest := []) (b2 := (0, 0)) (b3 := (0, 0)) (q := 81) rfl rfl rfl rfl mk_113 rfl rfl rfl rfl rfl ?_
            refine ok_no (j := 3) (by omega) (by decide) (by decide) ?_
            show am_Run am_X0 (am_meth d) 200 R 81 [some (.ref 113), some (.int s), some (.int a), some (.int x), some (.int ((2 * s) + 1))] [.int (-3 : Int32)] (am_mk (am_no I 3) L, 0, 0)
            exact ar_iret rfl rfl h
          · have c_12 := Classical.not_not.mp c_12
            have h := hA c_12
            clear hA hB
            refine ar_aload_n (j := 0) (q := 60) rfl rfl rfl rfl ?_
            refine ar_getf (v := .int (I 113 0)) (q := 63) rfl rfl mk_113 rfl rfl ?_
            refine ar_aload_n (j := 0) (q := 64) rfl rfl rfl rfl ?_
            refine ar_getf (v := .ref 127) (q := 67) rfl rfl mk_113 rfl rfl ?_
            refine ar_iload_n (j := 1) (q := 68) rfl rfl rfl rfl ?_
            refine ar_iald (v := I 127 j_3) (q := 69) rfl mk_127 (am_inE hi_5 hx_4 (by decide)) (am_clE hi_5 hx_4 (by decide)) rfl ?_
            refine ar_bipush (v := 30) (q := 71) rfl rfl rfl ?_
            refine ar_ib (i := .iadd) (z := (I 127 j_3) + 30) (q := 72) rfl rfl rfl rfl rfl ?_
            obtain ⟨hA, hB⟩ := h
            refine ar_br am_c_le (t := 82) (q := 75) rfl rfl rfl (fun c_13 => ?_) (fun c_13 => ?_)
            · have h := hA c_13
              clear hA hB
              refine ar_iload_n (j := 3) (q := 83) rfl rfl rfl rfl ?_
              refine ar_iconst (v := 1) (q := 84) rfl rfl rfl ?_
              obtain ⟨hA, hB⟩ := h
              refine ar_br am_d_ge (t := 94) (q := 87) rfl rfl rfl (fun c_14 => ?_) (fun c_14 => ?_)
              · have h := hB c_14
                clear hA hB
                refine ar_iload_n (j := 3) (q := 95) rfl rfl rfl rfl ?_
                refine ar_iconst (v := 5) (q := 96) rfl rfl rfl ?_
                obtain ⟨hA, hB⟩ := h
                refine ar_br am_c_le (t := 106) (q := 99) rfl rfl rfl (fun c_15 => ?_) (fun c_15 => ?_)
                · have h := hA c_15
                  clear hA hB
                  refine ar_aload_n (j := 0) (q := 107) rfl rfl rfl rfl ?_
                  refine ar_getf (v := .ref 130) (q := 110) rfl rfl mk_113 rfl rfl ?_
                  refine ar_iload (q := 112) rfl rfl rfl ?_
                  refine ar_iload_n (j := 3) (q := 113) rfl rfl rfl rfl ?_
                  obtain ⟨I_16, hI_17⟩ : ∃ z : Nat → Nat → Int32, z = va_up I 130 (upd (I 130) j_9 x) := ⟨_, rfl⟩
                  have h := h I_16 hI_17
                  refine ar_iast (hp2 := am_mk I_16 L) (q := 114) rfl mk_130 (am_inE hi_11 hx_10 (by decide)) (by rw [am_clT hi_11 hx_10 (by decide), hI_17]; exact mk_s130) rfl ?_
                  refine ar_aload_n (j := 0) (q := 115) rfl rfl rfl rfl ?_
                  refine ar_getf (v := .ref 131) (q := 118) rfl rfl mk_113 rfl rfl ?_
                  refine ar_iload (q := 120) rfl rfl rfl ?_
                  refine ar_aload_n (j := 0) (q := 121) rfl rfl rfl rfl ?_
                  refine ar_getf (v := .int (I_16 113 0)) (q := 124) rfl rfl mk_113 rfl rfl ?_
                  obtain ⟨I_18, hI_19⟩ : ∃ z : Nat → Nat → Int32, z = va_up I_16 131 (upd (I_16 131) j_9 (I_16 113 0)) := ⟨_, rfl⟩
                  have h := h I_18 hI_19
                  refine ar_iast (hp2 := am_mk I_18 L) (q := 125) rfl mk_131 (am_inE hi_11 hx_10 (by decide)) (by rw [am_clT hi_11 hx_10 (by decide), hI_19]; exact mk_s131) rfl ?_
                  refine ar_aload_n (j := 0) (q := 126) rfl rfl rfl rfl ?_
                  refine ar_iload (q := 128) rfl rfl rfl ?_
                  refine ar_aload_n (j := 0) (q := 129) rfl rfl rfl rfl ?_
                  refine ar_getf (v := .int (I_18 113 0)) (q := 132) rfl rfl mk_113 rfl rfl ?_
                  refine ar_invv (as := [.int ((2 * s) + 1), .int (I_18 113 0)]) (rest := []) (b2 := (0, 0)) (b3 := (0, 0)) (q := 135) rfl rfl rfl rfl mk_113 rfl rfl rfl rfl rfl ?_
                  obtain ⟨hp_21, h⟩ := h
                  obtain ⟨hA, hB⟩ := h
                  refine ok_M_counts (by omega) hi_11 hp_21 (fun c_20 => ?_) (fun c_20 => ?_)
                  · have h := hA c_20
                    clear hA hB
                    show am_Run am_X0 (am_meth d) 200 R 135 [some (.ref 113), some (.int s), some (.int a), some (.int x), some (.int ((2 * s) + 1))] [.int 1] (am_mk I_18 L, 0, 0)
                    refine ar_b0 am_c_eq (t := 142) (q := 138) rfl rfl rfl (fun c9 => absurd c9 (by decide)) (fun _ => ?_)
                    refine ar_iconst (v := 1) (q := 139) rfl rfl rfl ?_
                    refine ar_goto (t := 143) rfl rfl ?_
                    exact ar_iret rfl rfl h
                  · have h := hB c_20
                    clear hA hB
                    show am_Run am_X0 (am_meth d) 200 R 135 [some (.ref 113), some (.int s), some (.int a), some (.int x), some (.int ((2 * s) + 1))] [.int 0] (am_mk I_18 L, 0, 0)
                    refine ar_b0 am_c_eq (t := 142) (q := 138) rfl rfl rfl (fun _ => ?_) (fun c9 => absurd (by decide) c9)
                    refine ar_iconst (v := 0) (q := 143) rfl rfl rfl ?_
                    exact ar_iret rfl rfl h
                · have h := hB c_15
                  clear hA hB
                  refine ar_aload_n (j := 0) (q := 100) rfl rfl rfl rfl ?_
                  refine ar_bipush (v := (-6 : Int32)) (q := 102) rfl rfl rfl ?_
                  refine ar_invv (as := [.int (-6 : Int32)]) (rest := []) (b2 := (0, 0)) (b3 := (0, 0)) (q := 105) rfl rfl rfl rfl mk_113 rfl rfl rfl rfl rfl ?_
                  refine ok_no (j := 6) (by omega) (by decide) (by decide) ?_
                  show am_Run am_X0 (am_meth d) 200 R 105 [some (.ref 113), some (.int s), some (.int a), some (.int x), some (.int ((2 * s) + 1))] [.int (-6 : Int32)] (am_mk (am_no I 6) L, 0, 0)
                  exact ar_iret rfl rfl h
              · have c_14 := Classical.not_not.mp c_14
                have h := hA c_14
                clear hA hB
                refine ar_aload_n (j := 0) (q := 88) rfl rfl rfl rfl ?_
                refine ar_bipush (v := (-4 : Int32)) (q := 90) rfl rfl rfl ?_
                refine ar_invv (as := [.int (-4 : Int32)]) (rest := []) (b2 := (0, 0)) (b3 := (0, 0)) (q := 93) rfl rfl rfl rfl mk_113 rfl rfl rfl rfl rfl ?_
                refine ok_no (j := 4) (by omega) (by decide) (by decide) ?_
                show am_Run am_X0 (am_meth d) 200 R 93 [some (.ref 113), some (.int s), some (.int a), some (.int x), some (.int ((2 * s) + 1))] [.int (-4 : Int32)] (am_mk (am_no I 4) L, 0, 0)
                exact ar_iret rfl rfl h
            · have h := hB c_13
              clear hA hB
              refine ar_aload_n (j := 0) (q := 76) rfl rfl rfl rfl ?_
              refine ar_bipush (v := (-3 : Int32)) (q := 78) rfl rfl rfl ?_
              refine ar_invv (as := [.int (-3 : Int32)]) (rest := []) (b2 := (0, 0)) (b3 := (0, 0)) (q := 81) rfl rfl rfl rfl mk_113 rfl rfl rfl rfl rfl ?_
              refine ok_no (j := 3) (by omega) (by decide) (by decide) ?_
              show am_Run am_X0 (am_meth d) 200 R 81 [some (.ref 113), some (.int s), some (.int a), some (.int x), some (.int ((2 * s) + 1))] [.int (-3 : Int32)] (am_mk (am_no I 3) L, 0, 0)
              exact ar_iret rfl rfl h
        · have h := hB c_7
          clear hA hB
          show am_Run am_X0 (am_meth d) 200 R 46 [some (.ref 113), some (.int s), some (.int a), some (.int x), some (.int ((2 * s) + 1))] [.int 0] (am_mk I L, 0, 0)
          refine ar_b0 am_c_eq (t := 75) (q := 49) rfl rfl rfl (fun _ => ?_) (fun c9 => absurd (by decide) c9)
          refine ar_aload_n (j := 0) (q := 76) rfl rfl rfl rfl ?_
          refine ar_bipush (v := (-3 : Int32)) (q := 78) rfl rfl rfl ?_
          refine ar_invv (as := [.int (-3 : Int32)]) (rest := []) (b2 := (0, 0)) (b3 := (0, 0)) (q := 81) rfl rfl rfl rfl mk_113 rfl rfl rfl rfl rfl ?_
          refine ok_no (j := 3) (by omega) (by decide) (by decide) ?_
          show am_Run am_X0 (am_meth d) 200 R 81 [some (.ref 113), some (.int s), some (.int a), some (.int x), some (.int ((2 * s) + 1))] [.int (-3 : Int32)] (am_mk (am_no I 3) L, 0, 0)
          exact ar_iret rfl rfl h
    · have h := hB c_2
      clear hA hB
      refine ar_iconst (v := 2) (q := 19) rfl rfl rfl ?_
      refine ar_iload_n (j := 1) (q := 20) rfl rfl rfl rfl ?_
      refine ar_ib (i := .imul) (z := 2 * s) (q := 21) rfl rfl rfl rfl rfl ?_
      refine ar_goto (t := 29) rfl rfl ?_
      refine ar_istore (ls' := [some (.ref 113), some (.int s), some (.int a), some (.int x), some (.int (2 * s))]) (q := 31) rfl rfl rfl rfl ?_
      refine ar_aload_n (j := 0) (q := 32) rfl rfl rfl rfl ?_
      refine ar_getf (v := .ref 128) (q := 35) rfl rfl mk_113 rfl rfl ?_
      refine ar_iload_n (j := 1) (q := 36) rfl rfl rfl rfl ?_
      obtain ⟨j_22, hx_23, hi_24, h⟩ := h
      refine ar_iald (v := I 128 j_22) (q := 37) rfl mk_128 (am_inE hi_24 hx_23 (by decide)) (am_clE hi_24 hx_23 (by decide)) rfl ?_
      refine ar_iconst (v := 1) (q := 38) rfl rfl rfl ?_
      obtain ⟨hA, hB⟩ := h
      refine ar_br am_c_ne (t := 75) (q := 41) rfl rfl rfl (fun c_25 => ?_) (fun c_25 => ?_)
      · have h := hB c_25
        clear hA hB
        refine ar_aload_n (j := 0) (q := 76) rfl rfl rfl rfl ?_
        refine ar_bipush (v := (-3 : Int32)) (q := 78) rfl rfl rfl ?_
        refine ar_invv (as := [.int (-3 : Int32)]) (rest := []) (b2 := (0, 0)) (b3 := (0, 0)) (q := 81) rfl rfl rfl rfl mk_113 rfl rfl rfl rfl rfl ?_
        refine ok_no (j := 3) (by omega) (by decide) (by decide) ?_
        show am_Run am_X0 (am_meth d) 200 R 81 [some (.ref 113), some (.int s), some (.int a), some (.int x), some (.int (2 * s))] [.int (-3 : Int32)] (am_mk (am_no I 3) L, 0, 0)
        exact ar_iret rfl rfl h
      · have c_25 := Classical.not_not.mp c_25
        have h := hA c_25
        clear hA hB
        refine ar_aload_n (j := 0) (q := 42) rfl rfl rfl rfl ?_
        refine ar_iload_n (j := 1) (q := 43) rfl rfl rfl rfl ?_
        refine ar_invv (as := [.int s]) (rest := []) (b2 := (0, 0)) (b3 := (0, 0)) (q := 46) rfl rfl rfl rfl mk_113 rfl rfl rfl rfl rfl ?_
        obtain ⟨hp_27, h⟩ := h
        obtain ⟨hA, hB⟩ := h
        refine ok_M_isOver (by omega) hi_24 hp_27 (fun c_26 => ?_) (fun c_26 => ?_)
        · have h := hA c_26
          clear hA hB
          show am_Run am_X0 (am_meth d) 200 R 46 [some (.ref 113), some (.int s), some (.int a), some (.int x), some (.int (2 * s))] [.int 1] (am_mk I L, 0, 0)
          refine ar_b0 am_c_eq (t := 75) (q := 49) rfl rfl rfl (fun c9 => absurd c9 (by decide)) (fun _ => ?_)
          refine ar_aload_n (j := 0) (q := 50) rfl rfl rfl rfl ?_
          refine ar_getf (v := .ref 130) (q := 53) rfl rfl mk_113 rfl rfl ?_
          refine ar_iload (q := 55) rfl rfl rfl ?_
          obtain ⟨j_28, hx_29, hi_30, h⟩ := h
          refine ar_iald (v := I 130 j_28) (q := 56) rfl mk_130 (am_inE hi_30 hx_29 (by decide)) (am_clE hi_30 hx_29 (by decide)) rfl ?_
          obtain ⟨hA, hB⟩ := h
          refine ar_b0 am_d_gt (t := 75) (q := 59) rfl rfl rfl (fun c_31 => ?_) (fun c_31 => ?_)
          · have h := hB c_31
            clear hA hB
            refine ar_aload_n (j := 0) (q := 76) rfl rfl rfl rfl ?_
            refine ar_bipush (v := (-3 : Int32)) (q := 78) rfl rfl rfl ?_
            refine ar_invv (as := [.int (-3 : Int32)]) (rest := []) (b2 := (0, 0)) (b3 := (0, 0)) (q := 81) rfl rfl rfl rfl mk_113 rfl rfl rfl rfl rfl ?_
            refine ok_no (j := 3) (by omega) (by decide) (by decide) ?_
            show am_Run am_X0 (am_meth d) 200 R 81 [some (.ref 113), some (.int s), some (.int a), some (.int x), some (.int (2 * s))] [.int (-3 : Int32)] (am_mk (am_no I 3) L, 0, 0)
            exact ar_iret rfl rfl h
          · have c_31 := Classical.not_not.mp c_31
            have h := hA c_31
            clear hA hB
            refine ar_aload_n (j := 0) (q := 60) rfl rfl rfl rfl ?_
            refine ar_getf (v := .int (I 113 0)) (q := 63) rfl rfl mk_113 rfl rfl ?_
            refine ar_aload_n (j := 0) (q := 64) rfl rfl rfl rfl ?_
            refine ar_getf (v := .ref 127) (q := 67) rfl rfl mk_113 rfl rfl ?_
            refine ar_iload_n (j := 1) (q := 68) rfl rfl rfl rfl ?_
            refine ar_iald (v := I 127 j_22) (q := 69) rfl mk_127 (am_inE hi_24 hx_23 (by decide)) (am_clE hi_24 hx_23 (by decide)) rfl ?_
            refine ar_bipush (v := 30) (q := 71) rfl rfl rfl ?_
            refine ar_ib (i := .iadd) (z := (I 127 j_22) + 30) (q := 72) rfl rfl rfl rfl rfl ?_
            obtain ⟨hA, hB⟩ := h
            refine ar_br am_c_le (t := 82) (q := 75) rfl rfl rfl (fun c_32 => ?_) (fun c_32 => ?_)
            · have h := hA c_32
              clear hA hB
              refine ar_iload_n (j := 3) (q := 83) rfl rfl rfl rfl ?_
              refine ar_iconst (v := 1) (q := 84) rfl rfl rfl ?_
              obtain ⟨hA, hB⟩ := h
              refine ar_br am_d_ge (t := 94) (q := 87) rfl rfl rfl (fun c_33 => ?_) (fun c_33 => ?_)
              · have h := hB c_33
                clear hA hB
                refine ar_iload_n (j := 3) (q := 95) rfl rfl rfl rfl ?_
                refine ar_iconst (v := 5) (q := 96) rfl rfl rfl ?_
                obtain ⟨hA, hB⟩ := h
                refine ar_br am_c_le (t := 106) (q := 99) rfl rfl rfl (fun c_34 => ?_) (fun c_34 => ?_)
                · have h := hA c_34
                  clear hA hB
                  refine ar_aload_n (j := 0) (q := 107) rfl rfl rfl rfl ?_
                  refine ar_getf (v := .ref 130) (q := 110) rfl rfl mk_113 rfl rfl ?_
                  refine ar_iload (q := 112) rfl rfl rfl ?_
                  refine ar_iload_n (j := 3) (q := 113) rfl rfl rfl rfl ?_
                  obtain ⟨I_35, hI_36⟩ : ∃ z : Nat → Nat → Int32, z = va_up I 130 (upd (I 130) j_28 x) := ⟨_, rfl⟩
                  have h := h I_35 hI_36
                  refine ar_iast (hp2 := am_mk I_35 L) (q := 114) rfl mk_130 (am_inE hi_30 hx_29 (by decide)) (by rw [am_clT hi_30 hx_29 (by decide), hI_36]; exact mk_s130) rfl ?_
                  refine ar_aload_n (j := 0) (q := 115) rfl rfl rfl rfl ?_
                  refine ar_getf (v := .ref 131) (q := 118) rfl rfl mk_113 rfl rfl ?_
                  refine ar_iload (q := 120) rfl rfl rfl ?_
                  refine ar_aload_n (j := 0) (q := 121) rfl rfl rfl rfl ?_
                  refine ar_getf (v := .int (I_35 113 0)) (q := 124) rfl rfl mk_113 rfl rfl ?_
                  obtain ⟨I_37, hI_38⟩ : ∃ z : Nat → Nat → Int32, z = va_up I_35 131 (upd (I_35 131) j_28 (I_35 113 0)) := ⟨_, rfl⟩
                  have h := h I_37 hI_38
                  refine ar_iast (hp2 := am_mk I_37 L) (q := 125) rfl mk_131 (am_inE hi_30 hx_29 (by decide)) (by rw [am_clT hi_30 hx_29 (by decide), hI_38]; exact mk_s131) rfl ?_
                  refine ar_aload_n (j := 0) (q := 126) rfl rfl rfl rfl ?_
                  refine ar_iload (q := 128) rfl rfl rfl ?_
                  refine ar_aload_n (j := 0) (q := 129) rfl rfl rfl rfl ?_
                  refine ar_getf (v := .int (I_37 113 0)) (q := 132) rfl rfl mk_113 rfl rfl ?_
                  refine ar_invv (as := [.int (2 * s), .int (I_37 113 0)]) (rest := []) (b2 := (0, 0)) (b3 := (0, 0)) (q := 135) rfl rfl rfl rfl mk_113 rfl rfl rfl rfl rfl ?_
                  obtain ⟨hp_40, h⟩ := h
                  obtain ⟨hA, hB⟩ := h
                  refine ok_M_counts (by omega) hi_30 hp_40 (fun c_39 => ?_) (fun c_39 => ?_)
                  · have h := hA c_39
                    clear hA hB
                    show am_Run am_X0 (am_meth d) 200 R 135 [some (.ref 113), some (.int s), some (.int a), some (.int x), some (.int (2 * s))] [.int 1] (am_mk I_37 L, 0, 0)
                    refine ar_b0 am_c_eq (t := 142) (q := 138) rfl rfl rfl (fun c9 => absurd c9 (by decide)) (fun _ => ?_)
                    refine ar_iconst (v := 1) (q := 139) rfl rfl rfl ?_
                    refine ar_goto (t := 143) rfl rfl ?_
                    exact ar_iret rfl rfl h
                  · have h := hB c_39
                    clear hA hB
                    show am_Run am_X0 (am_meth d) 200 R 135 [some (.ref 113), some (.int s), some (.int a), some (.int x), some (.int (2 * s))] [.int 0] (am_mk I_37 L, 0, 0)
                    refine ar_b0 am_c_eq (t := 142) (q := 138) rfl rfl rfl (fun _ => ?_) (fun c9 => absurd (by decide) c9)
                    refine ar_iconst (v := 0) (q := 143) rfl rfl rfl ?_
                    exact ar_iret rfl rfl h
                · have h := hB c_34
                  clear hA hB
                  refine ar_aload_n (j := 0) (q := 100) rfl rfl rfl rfl ?_
                  refine ar_bipush (v := (-6 : Int32)) (q := 102) rfl rfl rfl ?_
                  refine ar_invv (as := [.int (-6 : Int32)]) (rest := []) (b2 := (0, 0)) (b3 := (0, 0)) (q := 105) rfl rfl rfl rfl mk_113 rfl rfl rfl rfl rfl ?_
                  refine ok_no (j := 6) (by omega) (by decide) (by decide) ?_
                  show am_Run am_X0 (am_meth d) 200 R 105 [some (.ref 113), some (.int s), some (.int a), some (.int x), some (.int (2 * s))] [.int (-6 : Int32)] (am_mk (am_no I 6) L, 0, 0)
                  exact ar_iret rfl rfl h
              · have c_33 := Classical.not_not.mp c_33
                have h := hA c_33
                clear hA hB
                refine ar_aload_n (j := 0) (q := 88) rfl rfl rfl rfl ?_
                refine ar_bipush (v := (-4 : Int32)) (q := 90) rfl rfl rfl ?_
                refine ar_invv (as := [.int (-4 : Int32)]) (rest := []) (b2 := (0, 0)) (b3 := (0, 0)) (q := 93) rfl rfl rfl rfl mk_113 rfl rfl rfl rfl rfl ?_
                refine ok_no (j := 4) (by omega) (by decide) (by decide) ?_
                show am_Run am_X0 (am_meth d) 200 R 93 [some (.ref 113), some (.int s), some (.int a), some (.int x), some (.int (2 * s))] [.int (-4 : Int32)] (am_mk (am_no I 4) L, 0, 0)
                exact ar_iret rfl rfl h
            · have h := hB c_32
              clear hA hB
              refine ar_aload_n (j := 0) (q := 76) rfl rfl rfl rfl ?_
              refine ar_bipush (v := (-3 : Int32)) (q := 78) rfl rfl rfl ?_
              refine ar_invv (as := [.int (-3 : Int32)]) (rest := []) (b2 := (0, 0)) (b3 := (0, 0)) (q := 81) rfl rfl rfl rfl mk_113 rfl rfl rfl rfl rfl ?_
              refine ok_no (j := 3) (by omega) (by decide) (by decide) ?_
              show am_Run am_X0 (am_meth d) 200 R 81 [some (.ref 113), some (.int s), some (.int a), some (.int x), some (.int (2 * s))] [.int (-3 : Int32)] (am_mk (am_no I 3) L, 0, 0)
              exact ar_iret rfl rfl h
        · have h := hB c_26
          clear hA hB
          show am_Run am_X0 (am_meth d) 200 R 46 [some (.ref 113), some (.int s), some (.int a), some (.int x), some (.int (2 * s))] [.int 0] (am_mk I L, 0, 0)
          refine ar_b0 am_c_eq (t := 75) (q := 49) rfl rfl rfl (fun _ => ?_) (fun c9 => absurd (by decide) c9)
          refine ar_aload_n (j := 0) (q := 76) rfl rfl rfl rfl ?_
          refine ar_bipush (v := (-3 : Int32)) (q := 78) rfl rfl rfl ?_
          refine ar_invv (as := [.int (-3 : Int32)]) (rest := []) (b2 := (0, 0)) (b3 := (0, 0)) (q := 81) rfl rfl rfl rfl mk_113 rfl rfl rfl rfl rfl ?_
          refine ok_no (j := 3) (by omega) (by decide) (by decide) ?_
          show am_Run am_X0 (am_meth d) 200 R 81 [some (.ref 113), some (.int s), some (.int a), some (.int x), some (.int (2 * s))] [.int (-3 : Int32)] (am_mk (am_no I 3) L, 0, 0)
          exact ar_iret rfl rfl h
  · have h := hB c_1
    clear hA hB
    show am_Run am_X0 (am_meth d) 200 R 5 [some (.ref 113), some (.int s), some (.int a), some (.int x), none] [.int 0] (am_mk I L, 0, 0)
    refine ar_b0 am_c_ne (t := 14) (q := 8) rfl rfl rfl (fun c9 => absurd (by decide) c9) (fun _ => ?_)
    refine ar_aload_n (j := 0) (q := 9) rfl rfl rfl rfl ?_
    refine ar_iconst (v := (-1 : Int32)) (q := 10) rfl rfl rfl ?_
    refine ar_invv (as := [.int (-1 : Int32)]) (rest := []) (b2 := (0, 0)) (b3 := (0, 0)) (q := 13) rfl rfl rfl rfl mk_113 rfl rfl rfl rfl rfl ?_
    refine ok_no (j := 1) (by omega) (by decide) (by decide) ?_
    show am_Run am_X0 (am_meth d) 200 R 13 [some (.ref 113), some (.int s), some (.int a), some (.int x), none] [.int (-1 : Int32)] (am_mk (am_no I 1) L, 0, 0)
    exact ar_iret rfl rfl h
theorem r_H_hand_0 {d : Nat} (hd : 1 ≤ d) {R : am_R} {I : Nat → Nat → Int32} {L : Nat → Nat → Int64} {ho : Int32} {k : Int32} (h : ((0 ≤ ho ∧ ho < I 42 0 → (((k < 0 → (R (some (.int (-4 : Int32))) (am_mk (am_rf I 4) L, 0, 0))) ∧ ((¬ k < 0 ∧ (I 66 0) < k) → (R (some (.int (-6 : Int32))) (am_mk (am_rf I 6) L, 0, 0))) ∧ ((¬ k < 0 ∧ ¬ (I 66 0) < k) → (am_meth d 76 [.ref 74, .int k] (am_mk I L, 0, 0) (am_rv (fun I_3 L_4 => ∃ j_5 : Nat, j_5 < 20 ∧ ho = nI j_5 ∧ (R (some (.int (I_3 75 j_5))) (am_mk I_3 L_4, 0, 0))))))))) ∧ (¬ (0 ≤ ho ∧ ho < I 42 0) → (R (some (.int (-1 : Int32))) (am_mk (am_rf I 1) L, 0, 0))))) : am_Run am_X0 (am_meth d) 20 R 0 [some (.ref 0), some (.int ho), some (.int k), none] [] (am_mk I L, 0, 0) := by
  refine ar_aload_n (j := 0) (q := 1) rfl rfl rfl rfl ?_
  refine ar_getf (v := .ref 42) (q := 4) rfl rfl mk_0 rfl rfl ?_
  refine ar_iload_n (j := 1) (q := 5) rfl rfl rfl rfl ?_
  refine ar_invv (as := [.int ho]) (rest := []) (b2 := (0, 0)) (b3 := (0, 0)) (q := 8) rfl rfl rfl rfl mk_42 rfl rfl rfl rfl rfl ?_
  obtain ⟨hA, hB⟩ := h
  refine ok_Ho_has (by omega)  (fun c_1 => ?_) (fun c_1 => ?_)
  · have h := hA c_1
    clear hA hB
    show am_Run am_X0 (am_meth d) 20 R 8 [some (.ref 0), some (.int ho), some (.int k), none] [.int 1] (am_mk I L, 0, 0)
    refine ar_b0 am_c_ne (t := 17) (q := 11) rfl rfl rfl (fun _ => ?_) (fun c9 => absurd (by decide) c9)
    refine ar_iload_n (j := 2) (q := 18) rfl rfl rfl rfl ?_
    refine ar_iconst (v := 0) (q := 19) rfl rfl rfl ?_
    refine ar_aload_n (j := 0) (q := 20) rfl rfl rfl rfl ?_
    refine ar_getf (v := .ref 66) (q := 23) rfl rfl mk_0 rfl rfl ?_
    refine ar_getf (v := .int (I 66 0)) (q := 26) rfl rfl mk_66 rfl rfl ?_
    refine ar_invs (as := [.int k, .int 0, .int (I 66 0)]) (rest := []) (b2 := (0, 0)) (b3 := (0, 0)) (q := 29) rfl rfl rfl rfl rfl rfl rfl rfl rfl ?_
    obtain ⟨hC0, hC1, hC2⟩ := h
    refine ok_bound (by omega)  (fun c_2 => ?_) (fun c_2 => ?_) (fun c_2 => ?_)
    · have h := hC0 c_2
      clear hC0 hC1 hC2
      show am_Run am_X0 (am_meth d) 20 R 29 [some (.ref 0), some (.int ho), some (.int k), none] [.int (-4 : Int32)] (am_mk I L, 0, 0)
      refine ar_istore_n (j := 3) (ls' := [some (.ref 0), some (.int ho), some (.int k), some (.int (-4 : Int32))]) (q := 30) rfl rfl rfl rfl rfl ?_
      refine ar_iload_n (j := 3) (q := 31) rfl rfl rfl rfl ?_
      refine ar_b0 am_c_eq (t := 40) (q := 34) rfl rfl rfl (fun c9 => absurd c9 (by decide)) (fun _ => ?_)
      refine ar_aload_n (j := 0) (q := 35) rfl rfl rfl rfl ?_
      refine ar_iload_n (j := 3) (q := 36) rfl rfl rfl rfl ?_
      refine ar_invv (as := [.int (-4 : Int32)]) (rest := []) (b2 := (0, 0)) (b3 := (0, 0)) (q := 39) rfl rfl rfl rfl mk_0 rfl rfl rfl rfl rfl ?_
      refine ok_refuse (j := 4) (by omega) (by decide) (by decide) ?_
      show am_Run am_X0 (am_meth d) 20 R 39 [some (.ref 0), some (.int ho), some (.int k), some (.int (-4 : Int32))] [.int (-4 : Int32)] (am_mk (am_rf I 4) L, 0, 0)
      exact ar_iret rfl rfl h
    · have h := hC1 c_2
      clear hC0 hC1 hC2
      show am_Run am_X0 (am_meth d) 20 R 29 [some (.ref 0), some (.int ho), some (.int k), none] [.int (-6 : Int32)] (am_mk I L, 0, 0)
      refine ar_istore_n (j := 3) (ls' := [some (.ref 0), some (.int ho), some (.int k), some (.int (-6 : Int32))]) (q := 30) rfl rfl rfl rfl rfl ?_
      refine ar_iload_n (j := 3) (q := 31) rfl rfl rfl rfl ?_
      refine ar_b0 am_c_eq (t := 40) (q := 34) rfl rfl rfl (fun c9 => absurd c9 (by decide)) (fun _ => ?_)
      refine ar_aload_n (j := 0) (q := 35) rfl rfl rfl rfl ?_
      refine ar_iload_n (j := 3) (q := 36) rfl rfl rfl rfl ?_
      refine ar_invv (as := [.int (-6 : Int32)]) (rest := []) (b2 := (0, 0)) (b3 := (0, 0)) (q := 39) rfl rfl rfl rfl mk_0 rfl rfl rfl rfl rfl ?_
      refine ok_refuse (j := 6) (by omega) (by decide) (by decide) ?_
      show am_Run am_X0 (am_meth d) 20 R 39 [some (.ref 0), some (.int ho), some (.int k), some (.int (-6 : Int32))] [.int (-6 : Int32)] (am_mk (am_rf I 6) L, 0, 0)
      exact ar_iret rfl rfl h
    · have h := hC2 c_2
      clear hC0 hC1 hC2
      show am_Run am_X0 (am_meth d) 20 R 29 [some (.ref 0), some (.int ho), some (.int k), none] [.int 0] (am_mk I L, 0, 0)
      refine ar_istore_n (j := 3) (ls' := [some (.ref 0), some (.int ho), some (.int k), some (.int 0)]) (q := 30) rfl rfl rfl rfl rfl ?_
      refine ar_iload_n (j := 3) (q := 31) rfl rfl rfl rfl ?_
      refine ar_b0 am_c_eq (t := 40) (q := 34) rfl rfl rfl (fun _ => ?_) (fun c9 => absurd (by decide) c9)
      refine ar_aload_n (j := 0) (q := 41) rfl rfl rfl rfl ?_
      refine ar_getf (v := .ref 74) (q := 44) rfl rfl mk_0 rfl rfl ?_
      refine ar_iload_n (j := 2) (q := 45) rfl rfl rfl rfl ?_
      refine ar_invv (as := [.int k]) (rest := []) (b2 := (0, 0)) (b3 := (0, 0)) (q := 48) rfl rfl rfl rfl mk_74 rfl rfl rfl rfl rfl ?_
      refine am_meth_mono d _ _ _ _ _ (fun v9 m9 h9 => ?_) h
      obtain ⟨I_3, L_4, rfl, rfl, h⟩ := h9
      show am_Run am_X0 (am_meth d) 20 R 48 [some (.ref 0), some (.int ho), some (.int k), some (.int 0)] [] (am_mk I_3 L_4, 0, 0)
      refine ar_aload_n (j := 0) (q := 49) rfl rfl rfl rfl ?_
      refine ar_getf (v := .ref 74) (q := 52) rfl rfl mk_0 rfl rfl ?_
      refine ar_getf (v := .ref 75) (q := 55) rfl rfl mk_74 rfl rfl ?_
      refine ar_iload_n (j := 1) (q := 56) rfl rfl rfl rfl ?_
      obtain ⟨j_5, hx_6, hi_7, h⟩ := h
      refine ar_iald (v := I_3 75 j_5) (q := 57) rfl mk_75 (am_inE hi_7 hx_6 (by decide)) (am_clE hi_7 hx_6 (by decide)) rfl ?_
      exact ar_iret rfl rfl h
  · have h := hB c_1
    clear hA hB
    show am_Run am_X0 (am_meth d) 20 R 8 [some (.ref 0), some (.int ho), some (.int k), none] [.int 0] (am_mk I L, 0, 0)
    refine ar_b0 am_c_ne (t := 17) (q := 11) rfl rfl rfl (fun c9 => absurd (by decide) c9) (fun _ => ?_)
    refine ar_aload_n (j := 0) (q := 12) rfl rfl rfl rfl ?_
    refine ar_iconst (v := (-1 : Int32)) (q := 13) rfl rfl rfl ?_
    refine ar_invv (as := [.int (-1 : Int32)]) (rest := []) (b2 := (0, 0)) (b3 := (0, 0)) (q := 16) rfl rfl rfl rfl mk_0 rfl rfl rfl rfl rfl ?_
    refine ok_refuse (j := 1) (by omega) (by decide) (by decide) ?_
    show am_Run am_X0 (am_meth d) 20 R 16 [some (.ref 0), some (.int ho), some (.int k), none] [.int (-1 : Int32)] (am_mk (am_rf I 1) L, 0, 0)
    exact ar_iret rfl rfl h
theorem r_M_hand_0 {d : Nat} (hd : 1 ≤ d) {R : am_R} {I : Nat → Nat → Int32} {L : Nat → Nat → Int64} {ho : Int32} {k : Int32} (h : ((0 ≤ ho ∧ ho < I 113 10 → (((k < 0 → (R (some (.int (-4 : Int32))) (am_mk (am_no I 4) L, 0, 0))) ∧ (¬ k < 0 → (((k ≤ (I 113 0) → (am_meth d 186 [.ref 113, .int ho, .int k] (am_mk I L, 0, 0) (am_ri (fun z_4 I_5 L_6 => R (some (.int z_4)) (am_mk I_5 L_6, 0, 0))))) ∧ (¬ k ≤ (I 113 0) → (R (some (.int (-6 : Int32))) (am_mk (am_no I 6) L, 0, 0))))))))) ∧ (¬ (0 ≤ ho ∧ ho < I 113 10) → (R (some (.int (-1 : Int32))) (am_mk (am_no I 1) L, 0, 0))))) : am_Run am_X0 (am_meth d) 201 R 0 [some (.ref 113), some (.int ho), some (.int k)] [] (am_mk I L, 0, 0) := by
  refine ar_aload_n (j := 0) (q := 1) rfl rfl rfl rfl ?_
  refine ar_iload_n (j := 1) (q := 2) rfl rfl rfl rfl ?_
  refine ar_invv (as := [.int ho]) (rest := []) (b2 := (0, 0)) (b3 := (0, 0)) (q := 5) rfl rfl rfl rfl mk_113 rfl rfl rfl rfl rfl ?_
  obtain ⟨hA, hB⟩ := h
  refine ok_M_isHouse (by omega)  (fun c_1 => ?_) (fun c_1 => ?_)
  · have h := hA c_1
    clear hA hB
    show am_Run am_X0 (am_meth d) 201 R 5 [some (.ref 113), some (.int ho), some (.int k)] [.int 1] (am_mk I L, 0, 0)
    refine ar_b0 am_c_ne (t := 14) (q := 8) rfl rfl rfl (fun _ => ?_) (fun c9 => absurd (by decide) c9)
    refine ar_iload_n (j := 2) (q := 15) rfl rfl rfl rfl ?_
    obtain ⟨hA, hB⟩ := h
    refine ar_b0 am_d_ge (t := 25) (q := 18) rfl rfl rfl (fun c_2 => ?_) (fun c_2 => ?_)
    · have h := hB c_2
      clear hA hB
      refine ar_iload_n (j := 2) (q := 26) rfl rfl rfl rfl ?_
      refine ar_aload_n (j := 0) (q := 27) rfl rfl rfl rfl ?_
      refine ar_getf (v := .int (I 113 0)) (q := 30) rfl rfl mk_113 rfl rfl ?_
      obtain ⟨hA, hB⟩ := h
      refine ar_br am_c_le (t := 40) (q := 33) rfl rfl rfl (fun c_3 => ?_) (fun c_3 => ?_)
      · have h := hA c_3
        clear hA hB
        refine ar_aload_n (j := 0) (q := 41) rfl rfl rfl rfl ?_
        refine ar_iload_n (j := 1) (q := 42) rfl rfl rfl rfl ?_
        refine ar_iload_n (j := 2) (q := 43) rfl rfl rfl rfl ?_
        refine ar_invv (as := [.int ho, .int k]) (rest := []) (b2 := (0, 0)) (b3 := (0, 0)) (q := 46) rfl rfl rfl rfl mk_113 rfl rfl rfl rfl rfl ?_
        refine am_meth_mono d _ _ _ _ _ (fun v9 m9 h9 => ?_) h
        obtain ⟨z_4, I_5, L_6, rfl, rfl, h⟩ := h9
        show am_Run am_X0 (am_meth d) 201 R 46 [some (.ref 113), some (.int ho), some (.int k)] [.int z_4] (am_mk I_5 L_6, 0, 0)
        exact ar_iret rfl rfl h
      · have h := hB c_3
        clear hA hB
        refine ar_aload_n (j := 0) (q := 34) rfl rfl rfl rfl ?_
        refine ar_bipush (v := (-6 : Int32)) (q := 36) rfl rfl rfl ?_
        refine ar_invv (as := [.int (-6 : Int32)]) (rest := []) (b2 := (0, 0)) (b3 := (0, 0)) (q := 39) rfl rfl rfl rfl mk_113 rfl rfl rfl rfl rfl ?_
        refine ok_no (j := 6) (by omega) (by decide) (by decide) ?_
        show am_Run am_X0 (am_meth d) 201 R 39 [some (.ref 113), some (.int ho), some (.int k)] [.int (-6 : Int32)] (am_mk (am_no I 6) L, 0, 0)
        exact ar_iret rfl rfl h
    · have c_2 := Classical.not_not.mp c_2
      have h := hA c_2
      clear hA hB
      refine ar_aload_n (j := 0) (q := 19) rfl rfl rfl rfl ?_
      refine ar_bipush (v := (-4 : Int32)) (q := 21) rfl rfl rfl ?_
      refine ar_invv (as := [.int (-4 : Int32)]) (rest := []) (b2 := (0, 0)) (b3 := (0, 0)) (q := 24) rfl rfl rfl rfl mk_113 rfl rfl rfl rfl rfl ?_
      refine ok_no (j := 4) (by omega) (by decide) (by decide) ?_
      show am_Run am_X0 (am_meth d) 201 R 24 [some (.ref 113), some (.int ho), some (.int k)] [.int (-4 : Int32)] (am_mk (am_no I 4) L, 0, 0)
      exact ar_iret rfl rfl h
  · have h := hB c_1
    clear hA hB
    show am_Run am_X0 (am_meth d) 201 R 5 [some (.ref 113), some (.int ho), some (.int k)] [.int 0] (am_mk I L, 0, 0)
    refine ar_b0 am_c_ne (t := 14) (q := 8) rfl rfl rfl (fun c9 => absurd (by decide) c9) (fun _ => ?_)
    refine ar_aload_n (j := 0) (q := 9) rfl rfl rfl rfl ?_
    refine ar_iconst (v := (-1 : Int32)) (q := 10) rfl rfl rfl ?_
    refine ar_invv (as := [.int (-1 : Int32)]) (rest := []) (b2 := (0, 0)) (b3 := (0, 0)) (q := 13) rfl rfl rfl rfl mk_113 rfl rfl rfl rfl rfl ?_
    refine ok_no (j := 1) (by omega) (by decide) (by decide) ?_
    show am_Run am_X0 (am_meth d) 201 R 13 [some (.ref 113), some (.int ho), some (.int k)] [.int (-1 : Int32)] (am_mk (am_no I 1) L, 0, 0)
    exact ar_iret rfl rfl h
theorem r_H_trust_0 {d : Nat} (hd : 2 ≤ d) {R : am_R} {I : Nat → Nat → Int32} {L : Nat → Nat → Int64} {ho : Int32} {k : Int32} (h : ((0 ≤ ho ∧ ho < I 16 0 → (((k < 0 → (R (some (.int (1000000000 - (-4 : Int32)))) (am_mk (am_rf I 4) L, 0, 0))) ∧ ((¬ k < 0 ∧ (I 66 0) < k) → (R (some (.int (1000000000 - (-6 : Int32)))) (am_mk (am_rf I 6) L, 0, 0))) ∧ ((¬ k < 0 ∧ ¬ (I 66 0) < k) → (am_meth d 76 [.ref 74, .int k] (am_mk I L, 0, 0) (am_rv (fun I_3 L_4 => ∃ j_5 : Nat, j_5 < 20 ∧ ho = nI j_5 ∧ (R (some (.int (I_3 76 j_5))) (am_mk I_3 L_4, 0, 0))))))))) ∧ (¬ (0 ≤ ho ∧ ho < I 16 0) → (R (some (.int (1000000000 - (-1 : Int32)))) (am_mk (am_rf I 1) L, 0, 0))))) : am_Run am_X0 (am_meth d) 21 R 0 [some (.ref 0), some (.int ho), some (.int k), none] [] (am_mk I L, 0, 0) := by
  refine ar_aload_n (j := 0) (q := 1) rfl rfl rfl rfl ?_
  refine ar_getf (v := .ref 16) (q := 4) rfl rfl mk_0 rfl rfl ?_
  refine ar_iload_n (j := 1) (q := 5) rfl rfl rfl rfl ?_
  refine ar_invv (as := [.int ho]) (rest := []) (b2 := (0, 0)) (b3 := (0, 0)) (q := 8) rfl rfl rfl rfl mk_16 rfl rfl rfl rfl rfl ?_
  obtain ⟨hA, hB⟩ := h
  refine ok_Ke_has (by omega)  (fun c_1 => ?_) (fun c_1 => ?_)
  · have h := hA c_1
    clear hA hB
    show am_Run am_X0 (am_meth d) 21 R 8 [some (.ref 0), some (.int ho), some (.int k), none] [.int 1] (am_mk I L, 0, 0)
    refine ar_b0 am_c_ne (t := 17) (q := 11) rfl rfl rfl (fun _ => ?_) (fun c9 => absurd (by decide) c9)
    refine ar_iload_n (j := 2) (q := 18) rfl rfl rfl rfl ?_
    refine ar_iconst (v := 0) (q := 19) rfl rfl rfl ?_
    refine ar_aload_n (j := 0) (q := 20) rfl rfl rfl rfl ?_
    refine ar_getf (v := .ref 66) (q := 23) rfl rfl mk_0 rfl rfl ?_
    refine ar_getf (v := .int (I 66 0)) (q := 26) rfl rfl mk_66 rfl rfl ?_
    refine ar_invs (as := [.int k, .int 0, .int (I 66 0)]) (rest := []) (b2 := (0, 0)) (b3 := (0, 0)) (q := 29) rfl rfl rfl rfl rfl rfl rfl rfl rfl ?_
    obtain ⟨hC0, hC1, hC2⟩ := h
    refine ok_bound (by omega)  (fun c_2 => ?_) (fun c_2 => ?_) (fun c_2 => ?_)
    · have h := hC0 c_2
      clear hC0 hC1 hC2
      show am_Run am_X0 (am_meth d) 21 R 29 [some (.ref 0), some (.int ho), some (.int k), none] [.int (-4 : Int32)] (am_mk I L, 0, 0)
      refine ar_istore_n (j := 3) (ls' := [some (.ref 0), some (.int ho), some (.int k), some (.int (-4 : Int32))]) (q := 30) rfl rfl rfl rfl rfl ?_
      refine ar_iload_n (j := 3) (q := 31) rfl rfl rfl rfl ?_
      refine ar_b0 am_c_eq (t := 40) (q := 34) rfl rfl rfl (fun c9 => absurd c9 (by decide)) (fun _ => ?_)
      refine ar_aload_n (j := 0) (q := 35) rfl rfl rfl rfl ?_
      refine ar_iload_n (j := 3) (q := 36) rfl rfl rfl rfl ?_
      refine ar_invv (as := [.int (-4 : Int32)]) (rest := []) (b2 := (0, 0)) (b3 := (0, 0)) (q := 39) rfl rfl rfl rfl mk_0 rfl rfl rfl rfl rfl ?_
      refine ok_refuseBeyond (j := 4) (by omega) (by decide) (by decide) ?_
      show am_Run am_X0 (am_meth d) 21 R 39 [some (.ref 0), some (.int ho), some (.int k), some (.int (-4 : Int32))] [.int (1000000000 - (-4 : Int32))] (am_mk (am_rf I 4) L, 0, 0)
      exact ar_iret rfl rfl h
    · have h := hC1 c_2
      clear hC0 hC1 hC2
      show am_Run am_X0 (am_meth d) 21 R 29 [some (.ref 0), some (.int ho), some (.int k), none] [.int (-6 : Int32)] (am_mk I L, 0, 0)
      refine ar_istore_n (j := 3) (ls' := [some (.ref 0), some (.int ho), some (.int k), some (.int (-6 : Int32))]) (q := 30) rfl rfl rfl rfl rfl ?_
      refine ar_iload_n (j := 3) (q := 31) rfl rfl rfl rfl ?_
      refine ar_b0 am_c_eq (t := 40) (q := 34) rfl rfl rfl (fun c9 => absurd c9 (by decide)) (fun _ => ?_)
      refine ar_aload_n (j := 0) (q := 35) rfl rfl rfl rfl ?_
      refine ar_iload_n (j := 3) (q := 36) rfl rfl rfl rfl ?_
      refine ar_invv (as := [.int (-6 : Int32)]) (rest := []) (b2 := (0, 0)) (b3 := (0, 0)) (q := 39) rfl rfl rfl rfl mk_0 rfl rfl rfl rfl rfl ?_
      refine ok_refuseBeyond (j := 6) (by omega) (by decide) (by decide) ?_
      show am_Run am_X0 (am_meth d) 21 R 39 [some (.ref 0), some (.int ho), some (.int k), some (.int (-6 : Int32))] [.int (1000000000 - (-6 : Int32))] (am_mk (am_rf I 6) L, 0, 0)
      exact ar_iret rfl rfl h
    · have h := hC2 c_2
      clear hC0 hC1 hC2
      show am_Run am_X0 (am_meth d) 21 R 29 [some (.ref 0), some (.int ho), some (.int k), none] [.int 0] (am_mk I L, 0, 0)
      refine ar_istore_n (j := 3) (ls' := [some (.ref 0), some (.int ho), some (.int k), some (.int 0)]) (q := 30) rfl rfl rfl rfl rfl ?_
      refine ar_iload_n (j := 3) (q := 31) rfl rfl rfl rfl ?_
      refine ar_b0 am_c_eq (t := 40) (q := 34) rfl rfl rfl (fun _ => ?_) (fun c9 => absurd (by decide) c9)
      refine ar_aload_n (j := 0) (q := 41) rfl rfl rfl rfl ?_
      refine ar_getf (v := .ref 74) (q := 44) rfl rfl mk_0 rfl rfl ?_
      refine ar_iload_n (j := 2) (q := 45) rfl rfl rfl rfl ?_
      refine ar_invv (as := [.int k]) (rest := []) (b2 := (0, 0)) (b3 := (0, 0)) (q := 48) rfl rfl rfl rfl mk_74 rfl rfl rfl rfl rfl ?_
      refine am_meth_mono d _ _ _ _ _ (fun v9 m9 h9 => ?_) h
      obtain ⟨I_3, L_4, rfl, rfl, h⟩ := h9
      show am_Run am_X0 (am_meth d) 21 R 48 [some (.ref 0), some (.int ho), some (.int k), some (.int 0)] [] (am_mk I_3 L_4, 0, 0)
      refine ar_aload_n (j := 0) (q := 49) rfl rfl rfl rfl ?_
      refine ar_getf (v := .ref 74) (q := 52) rfl rfl mk_0 rfl rfl ?_
      refine ar_getf (v := .ref 76) (q := 55) rfl rfl mk_74 rfl rfl ?_
      refine ar_iload_n (j := 1) (q := 56) rfl rfl rfl rfl ?_
      obtain ⟨j_5, hx_6, hi_7, h⟩ := h
      refine ar_iald (v := I_3 76 j_5) (q := 57) rfl mk_76 (am_inE hi_7 hx_6 (by decide)) (am_clE hi_7 hx_6 (by decide)) rfl ?_
      exact ar_iret rfl rfl h
  · have h := hB c_1
    clear hA hB
    show am_Run am_X0 (am_meth d) 21 R 8 [some (.ref 0), some (.int ho), some (.int k), none] [.int 0] (am_mk I L, 0, 0)
    refine ar_b0 am_c_ne (t := 17) (q := 11) rfl rfl rfl (fun c9 => absurd (by decide) c9) (fun _ => ?_)
    refine ar_aload_n (j := 0) (q := 12) rfl rfl rfl rfl ?_
    refine ar_iconst (v := (-1 : Int32)) (q := 13) rfl rfl rfl ?_
    refine ar_invv (as := [.int (-1 : Int32)]) (rest := []) (b2 := (0, 0)) (b3 := (0, 0)) (q := 16) rfl rfl rfl rfl mk_0 rfl rfl rfl rfl rfl ?_
    refine ok_refuseBeyond (j := 1) (by omega) (by decide) (by decide) ?_
    show am_Run am_X0 (am_meth d) 21 R 16 [some (.ref 0), some (.int ho), some (.int k), none] [.int (1000000000 - (-1 : Int32))] (am_mk (am_rf I 1) L, 0, 0)
    exact ar_iret rfl rfl h
theorem r_M_trust_0 {d : Nat} (hd : 2 ≤ d) {R : am_R} {I : Nat → Nat → Int32} {L : Nat → Nat → Int64} {ho : Int32} {k : Int32} (h : ((0 ≤ ho ∧ ho < I 113 4 → (((k < 0 → (R (some (.int (1000000000 - (-4 : Int32)))) (am_mk (am_no I 4) L, 0, 0))) ∧ (¬ k < 0 → (((k ≤ (I 113 0) → (am_meth d 184 [.ref 113, .int ho, .int k] (am_mk I L, 0, 0) (am_ri (fun z_4 I_5 L_6 => R (some (.int z_4)) (am_mk I_5 L_6, 0, 0))))) ∧ (¬ k ≤ (I 113 0) → (R (some (.int (1000000000 - (-6 : Int32)))) (am_mk (am_no I 6) L, 0, 0))))))))) ∧ (¬ (0 ≤ ho ∧ ho < I 113 4) → (R (some (.int (1000000000 - (-1 : Int32)))) (am_mk (am_no I 1) L, 0, 0))))) : am_Run am_X0 (am_meth d) 202 R 0 [some (.ref 113), some (.int ho), some (.int k)] [] (am_mk I L, 0, 0) := by
  refine ar_aload_n (j := 0) (q := 1) rfl rfl rfl rfl ?_
  refine ar_iload_n (j := 1) (q := 2) rfl rfl rfl rfl ?_
  refine ar_invv (as := [.int ho]) (rest := []) (b2 := (0, 0)) (b3 := (0, 0)) (q := 5) rfl rfl rfl rfl mk_113 rfl rfl rfl rfl rfl ?_
  obtain ⟨hA, hB⟩ := h
  refine ok_M_isKeeper (by omega)  (fun c_1 => ?_) (fun c_1 => ?_)
  · have h := hA c_1
    clear hA hB
    show am_Run am_X0 (am_meth d) 202 R 5 [some (.ref 113), some (.int ho), some (.int k)] [.int 1] (am_mk I L, 0, 0)
    refine ar_b0 am_c_ne (t := 14) (q := 8) rfl rfl rfl (fun _ => ?_) (fun c9 => absurd (by decide) c9)
    refine ar_iload_n (j := 2) (q := 15) rfl rfl rfl rfl ?_
    obtain ⟨hA, hB⟩ := h
    refine ar_b0 am_d_ge (t := 25) (q := 18) rfl rfl rfl (fun c_2 => ?_) (fun c_2 => ?_)
    · have h := hB c_2
      clear hA hB
      refine ar_iload_n (j := 2) (q := 26) rfl rfl rfl rfl ?_
      refine ar_aload_n (j := 0) (q := 27) rfl rfl rfl rfl ?_
      refine ar_getf (v := .int (I 113 0)) (q := 30) rfl rfl mk_113 rfl rfl ?_
      obtain ⟨hA, hB⟩ := h
      refine ar_br am_c_le (t := 40) (q := 33) rfl rfl rfl (fun c_3 => ?_) (fun c_3 => ?_)
      · have h := hA c_3
        clear hA hB
        refine ar_aload_n (j := 0) (q := 41) rfl rfl rfl rfl ?_
        refine ar_iload_n (j := 1) (q := 42) rfl rfl rfl rfl ?_
        refine ar_iload_n (j := 2) (q := 43) rfl rfl rfl rfl ?_
        refine ar_invv (as := [.int ho, .int k]) (rest := []) (b2 := (0, 0)) (b3 := (0, 0)) (q := 46) rfl rfl rfl rfl mk_113 rfl rfl rfl rfl rfl ?_
        refine am_meth_mono d _ _ _ _ _ (fun v9 m9 h9 => ?_) h
        obtain ⟨z_4, I_5, L_6, rfl, rfl, h⟩ := h9
        show am_Run am_X0 (am_meth d) 202 R 46 [some (.ref 113), some (.int ho), some (.int k)] [.int z_4] (am_mk I_5 L_6, 0, 0)
        exact ar_iret rfl rfl h
      · have h := hB c_3
        clear hA hB
        refine ar_aload_n (j := 0) (q := 34) rfl rfl rfl rfl ?_
        refine ar_bipush (v := (-6 : Int32)) (q := 36) rfl rfl rfl ?_
        refine ar_invv (as := [.int (-6 : Int32)]) (rest := []) (b2 := (0, 0)) (b3 := (0, 0)) (q := 39) rfl rfl rfl rfl mk_113 rfl rfl rfl rfl rfl ?_
        refine ok_far (j := 6) (by omega) (by decide) (by decide) ?_
        show am_Run am_X0 (am_meth d) 202 R 39 [some (.ref 113), some (.int ho), some (.int k)] [.int (1000000000 - (-6 : Int32))] (am_mk (am_no I 6) L, 0, 0)
        exact ar_iret rfl rfl h
    · have c_2 := Classical.not_not.mp c_2
      have h := hA c_2
      clear hA hB
      refine ar_aload_n (j := 0) (q := 19) rfl rfl rfl rfl ?_
      refine ar_bipush (v := (-4 : Int32)) (q := 21) rfl rfl rfl ?_
      refine ar_invv (as := [.int (-4 : Int32)]) (rest := []) (b2 := (0, 0)) (b3 := (0, 0)) (q := 24) rfl rfl rfl rfl mk_113 rfl rfl rfl rfl rfl ?_
      refine ok_far (j := 4) (by omega) (by decide) (by decide) ?_
      show am_Run am_X0 (am_meth d) 202 R 24 [some (.ref 113), some (.int ho), some (.int k)] [.int (1000000000 - (-4 : Int32))] (am_mk (am_no I 4) L, 0, 0)
      exact ar_iret rfl rfl h
  · have h := hB c_1
    clear hA hB
    show am_Run am_X0 (am_meth d) 202 R 5 [some (.ref 113), some (.int ho), some (.int k)] [.int 0] (am_mk I L, 0, 0)
    refine ar_b0 am_c_ne (t := 14) (q := 8) rfl rfl rfl (fun c9 => absurd (by decide) c9) (fun _ => ?_)
    refine ar_aload_n (j := 0) (q := 9) rfl rfl rfl rfl ?_
    refine ar_iconst (v := (-1 : Int32)) (q := 10) rfl rfl rfl ?_
    refine ar_invv (as := [.int (-1 : Int32)]) (rest := []) (b2 := (0, 0)) (b3 := (0, 0)) (q := 13) rfl rfl rfl rfl mk_113 rfl rfl rfl rfl rfl ?_
    refine ok_far (j := 1) (by omega) (by decide) (by decide) ?_
    show am_Run am_X0 (am_meth d) 202 R 13 [some (.ref 113), some (.int ho), some (.int k)] [.int (1000000000 - (-1 : Int32))] (am_mk (am_no I 1) L, 0, 0)
    exact ar_iret rfl rfl h
theorem r_H_bound_0 {d : Nat} (hd : 2 ≤ d) {R : am_R} {I : Nat → Nat → Int32} {L : Nat → Nat → Int64} {ho : Int32} {w : Int32} (h : ((0 ≤ ho ∧ ho < I 16 0 → (((w = 0 → (am_meth d 76 [.ref 74, .int (I 66 0)] (am_mk I L, 0, 0) (am_rv (fun I_3 L_4 => ∃ j_5 : Nat, ho = nI j_5 ∧ ((j_5 < 20) ∧ ((¬ I_3 77 j_5 + 1 = 0) ∧ (∃ j_9 : Nat, j_9 < 20 ∧ ho = nI j_9 ∧ (R (some (.int ((I_3 76 j_9) - (400 / (I_3 77 j_5 + 1))))) (am_mk I_3 L_4, 0, 0))))))))) ∧ (¬ w = 0 → (((w = 1 → (am_meth d 76 [.ref 74, .int (I 66 0)] (am_mk I L, 0, 0) (am_rv (fun I_13 L_14 => ∃ j_15 : Nat, ho = nI j_15 ∧ ((j_15 < 20) ∧ ((¬ I_13 77 j_15 + 1 = 0) ∧ (∃ j_19 : Nat, j_19 < 20 ∧ ho = nI j_19 ∧ (R (some (.int ((I_13 76 j_19) + (400 / (I_13 77 j_15 + 1))))) (am_mk I_13 L_14, 0, 0))))))))) ∧ (¬ w = 1 → (R (some (.int (1000000000 - (-2 : Int32)))) (am_mk (am_rf I 2) L, 0, 0))))))))) ∧ (¬ (0 ≤ ho ∧ ho < I 16 0) → (R (some (.int (1000000000 - (-1 : Int32)))) (am_mk (am_rf I 1) L, 0, 0))))) : am_Run am_X0 (am_meth d) 22 R 0 [some (.ref 0), some (.int ho), some (.int w), none] [] (am_mk I L, 0, 0) := by
  refine ar_aload_n (j := 0) (q := 1) rfl rfl rfl rfl ?_
  refine ar_getf (v := .ref 16) (q := 4) rfl rfl mk_0 rfl rfl ?_
  refine ar_iload_n (j := 1) (q := 5) rfl rfl rfl rfl ?_
  refine ar_invv (as := [.int ho]) (rest := []) (b2 := (0, 0)) (b3 := (0, 0)) (q := 8) rfl rfl rfl rfl mk_16 rfl rfl rfl rfl rfl ?_
  obtain ⟨hA, hB⟩ := h
  refine ok_Ke_has (by omega)  (fun c_1 => ?_) (fun c_1 => ?_)
  · have h := hA c_1
    clear hA hB
    show am_Run am_X0 (am_meth d) 22 R 8 [some (.ref 0), some (.int ho), some (.int w), none] [.int 1] (am_mk I L, 0, 0)
    refine ar_b0 am_c_ne (t := 17) (q := 11) rfl rfl rfl (fun _ => ?_) (fun c9 => absurd (by decide) c9)
    refine ar_iload_n (j := 2) (q := 18) rfl rfl rfl rfl ?_
    obtain ⟨hA, hB⟩ := h
    refine ar_b0 am_c_eq (t := 33) (q := 21) rfl rfl rfl (fun c_2 => ?_) (fun c_2 => ?_)
    · have h := hA c_2
      clear hA hB
      refine ar_aload_n (j := 0) (q := 34) rfl rfl rfl rfl ?_
      refine ar_getf (v := .ref 74) (q := 37) rfl rfl mk_0 rfl rfl ?_
      refine ar_aload_n (j := 0) (q := 38) rfl rfl rfl rfl ?_
      refine ar_getf (v := .ref 66) (q := 41) rfl rfl mk_0 rfl rfl ?_
      refine ar_getf (v := .int (I 66 0)) (q := 44) rfl rfl mk_66 rfl rfl ?_
      refine ar_invv (as := [.int (I 66 0)]) (rest := []) (b2 := (0, 0)) (b3 := (0, 0)) (q := 47) rfl rfl rfl rfl mk_74 rfl rfl rfl rfl rfl ?_
      refine am_meth_mono d _ _ _ _ _ (fun v9 m9 h9 => ?_) h
      obtain ⟨I_3, L_4, rfl, rfl, h⟩ := h9
      show am_Run am_X0 (am_meth d) 22 R 47 [some (.ref 0), some (.int ho), some (.int w), none] [] (am_mk I_3 L_4, 0, 0)
      refine ar_aload_n (j := 0) (q := 48) rfl rfl rfl rfl ?_
      refine ar_getf (v := .ref 74) (q := 51) rfl rfl mk_0 rfl rfl ?_
      refine ar_iload_n (j := 1) (q := 52) rfl rfl rfl rfl ?_
      refine ar_invv (as := [.int ho]) (rest := []) (b2 := (0, 0)) (b3 := (0, 0)) (q := 55) rfl rfl rfl rfl mk_74 rfl rfl rfl rfl rfl ?_
      obtain ⟨j_5, hi_6, h⟩ := h
      obtain ⟨hp_7, h⟩ := h
      obtain ⟨hp_8, h⟩ := h
      refine ok_Re_doubtOf (by omega) hi_6 hp_7 hp_8 ?_
      show am_Run am_X0 (am_meth d) 22 R 55 [some (.ref 0), some (.int ho), some (.int w), none] [.int (400 / (I_3 77 j_5 + 1))] (am_mk I_3 L_4, 0, 0)
      refine ar_istore_n (j := 3) (ls' := [some (.ref 0), some (.int ho), some (.int w), some (.int (400 / (I_3 77 j_5 + 1)))]) (q := 56) rfl rfl rfl rfl rfl ?_
      refine ar_iload_n (j := 2) (q := 57) rfl rfl rfl rfl ?_
      refine ar_b0 am_c_ne (t := 74) (q := 60) rfl rfl rfl (fun c9 => absurd c_2 c9) (fun _ => ?_)
      refine ar_aload_n (j := 0) (q := 61) rfl rfl rfl rfl ?_
      refine ar_getf (v := .ref 74) (q := 64) rfl rfl mk_0 rfl rfl ?_
      refine ar_getf (v := .ref 76) (q := 67) rfl rfl mk_74 rfl rfl ?_
      refine ar_iload_n (j := 1) (q := 68) rfl rfl rfl rfl ?_
      obtain ⟨j_9, hx_10, hi_11, h⟩ := h
      refine ar_iald (v := I_3 76 j_9) (q := 69) rfl mk_76 (am_inE hi_11 hx_10 (by decide)) (am_clE hi_11 hx_10 (by decide)) rfl ?_
      refine ar_iload_n (j := 3) (q := 70) rfl rfl rfl rfl ?_
      refine ar_ib (i := .isub) (z := (I_3 76 j_9) - (400 / (I_3 77 j_5 + 1))) (q := 71) rfl rfl rfl rfl rfl ?_
      refine ar_goto (t := 85) rfl rfl ?_
      exact ar_iret rfl rfl h
    · have h := hB c_2
      clear hA hB
      refine ar_iload_n (j := 2) (q := 22) rfl rfl rfl rfl ?_
      refine ar_iconst (v := 1) (q := 23) rfl rfl rfl ?_
      obtain ⟨hA, hB⟩ := h
      refine ar_br am_c_eq (t := 33) (q := 26) rfl rfl rfl (fun c_12 => ?_) (fun c_12 => ?_)
      · have h := hA c_12
        clear hA hB
        refine ar_aload_n (j := 0) (q := 34) rfl rfl rfl rfl ?_
        refine ar_getf (v := .ref 74) (q := 37) rfl rfl mk_0 rfl rfl ?_
        refine ar_aload_n (j := 0) (q := 38) rfl rfl rfl rfl ?_
        refine ar_getf (v := .ref 66) (q := 41) rfl rfl mk_0 rfl rfl ?_
        refine ar_getf (v := .int (I 66 0)) (q := 44) rfl rfl mk_66 rfl rfl ?_
        refine ar_invv (as := [.int (I 66 0)]) (rest := []) (b2 := (0, 0)) (b3 := (0, 0)) (q := 47) rfl rfl rfl rfl mk_74 rfl rfl rfl rfl rfl ?_
        refine am_meth_mono d _ _ _ _ _ (fun v9 m9 h9 => ?_) h
        obtain ⟨I_13, L_14, rfl, rfl, h⟩ := h9
        show am_Run am_X0 (am_meth d) 22 R 47 [some (.ref 0), some (.int ho), some (.int w), none] [] (am_mk I_13 L_14, 0, 0)
        refine ar_aload_n (j := 0) (q := 48) rfl rfl rfl rfl ?_
        refine ar_getf (v := .ref 74) (q := 51) rfl rfl mk_0 rfl rfl ?_
        refine ar_iload_n (j := 1) (q := 52) rfl rfl rfl rfl ?_
        refine ar_invv (as := [.int ho]) (rest := []) (b2 := (0, 0)) (b3 := (0, 0)) (q := 55) rfl rfl rfl rfl mk_74 rfl rfl rfl rfl rfl ?_
        obtain ⟨j_15, hi_16, h⟩ := h
        obtain ⟨hp_17, h⟩ := h
        obtain ⟨hp_18, h⟩ := h
        refine ok_Re_doubtOf (by omega) hi_16 hp_17 hp_18 ?_
        show am_Run am_X0 (am_meth d) 22 R 55 [some (.ref 0), some (.int ho), some (.int w), none] [.int (400 / (I_13 77 j_15 + 1))] (am_mk I_13 L_14, 0, 0)
        refine ar_istore_n (j := 3) (ls' := [some (.ref 0), some (.int ho), some (.int w), some (.int (400 / (I_13 77 j_15 + 1)))]) (q := 56) rfl rfl rfl rfl rfl ?_
        refine ar_iload_n (j := 2) (q := 57) rfl rfl rfl rfl ?_
        refine ar_b0 am_c_ne (t := 74) (q := 60) rfl rfl rfl (fun _ => ?_) (fun c9 => absurd c_2 c9)
        refine ar_aload_n (j := 0) (q := 75) rfl rfl rfl rfl ?_
        refine ar_getf (v := .ref 74) (q := 78) rfl rfl mk_0 rfl rfl ?_
        refine ar_getf (v := .ref 76) (q := 81) rfl rfl mk_74 rfl rfl ?_
        refine ar_iload_n (j := 1) (q := 82) rfl rfl rfl rfl ?_
        obtain ⟨j_19, hx_20, hi_21, h⟩ := h
        refine ar_iald (v := I_13 76 j_19) (q := 83) rfl mk_76 (am_inE hi_21 hx_20 (by decide)) (am_clE hi_21 hx_20 (by decide)) rfl ?_
        refine ar_iload_n (j := 3) (q := 84) rfl rfl rfl rfl ?_
        refine ar_ib (i := .iadd) (z := (I_13 76 j_19) + (400 / (I_13 77 j_15 + 1))) (q := 85) rfl rfl rfl rfl rfl ?_
        exact ar_iret rfl rfl h
      · have h := hB c_12
        clear hA hB
        refine ar_aload_n (j := 0) (q := 27) rfl rfl rfl rfl ?_
        refine ar_bipush (v := (-2 : Int32)) (q := 29) rfl rfl rfl ?_
        refine ar_invv (as := [.int (-2 : Int32)]) (rest := []) (b2 := (0, 0)) (b3 := (0, 0)) (q := 32) rfl rfl rfl rfl mk_0 rfl rfl rfl rfl rfl ?_
        refine ok_refuseBeyond (j := 2) (by omega) (by decide) (by decide) ?_
        show am_Run am_X0 (am_meth d) 22 R 32 [some (.ref 0), some (.int ho), some (.int w), none] [.int (1000000000 - (-2 : Int32))] (am_mk (am_rf I 2) L, 0, 0)
        exact ar_iret rfl rfl h
  · have h := hB c_1
    clear hA hB
    show am_Run am_X0 (am_meth d) 22 R 8 [some (.ref 0), some (.int ho), some (.int w), none] [.int 0] (am_mk I L, 0, 0)
    refine ar_b0 am_c_ne (t := 17) (q := 11) rfl rfl rfl (fun c9 => absurd (by decide) c9) (fun _ => ?_)
    refine ar_aload_n (j := 0) (q := 12) rfl rfl rfl rfl ?_
    refine ar_iconst (v := (-1 : Int32)) (q := 13) rfl rfl rfl ?_
    refine ar_invv (as := [.int (-1 : Int32)]) (rest := []) (b2 := (0, 0)) (b3 := (0, 0)) (q := 16) rfl rfl rfl rfl mk_0 rfl rfl rfl rfl rfl ?_
    refine ok_refuseBeyond (j := 1) (by omega) (by decide) (by decide) ?_
    show am_Run am_X0 (am_meth d) 22 R 16 [some (.ref 0), some (.int ho), some (.int w), none] [.int (1000000000 - (-1 : Int32))] (am_mk (am_rf I 1) L, 0, 0)
    exact ar_iret rfl rfl h
theorem r_M_bound_0 {d : Nat} (hd : 2 ≤ d) {R : am_R} {I : Nat → Nat → Int32} {L : Nat → Nat → Int64} {ho : Int32} {w : Int32} (h : ((0 ≤ ho ∧ ho < I 113 4 → (((w < 0 → (R (some (.int (1000000000 - (-2 : Int32)))) (am_mk (am_no I 2) L, 0, 0))) ∧ (¬ w < 0 → (((w ≤ 1 → (am_meth d 187 [.ref 113, .int ho, .int (I 113 0)] (am_mk I L, 0, 0) (am_ri (fun z_4 I_5 L_6 => ¬ z_4 + 1 = 0 ∧ (((w = 0 → (am_meth d 184 [.ref 113, .int ho, .int (I_5 113 0)] (am_mk I_5 L_6, 0, 0) (am_ri (fun z_9 I_10 L_11 => R (some (.int (z_9 - (400 / (z_4 + 1))))) (am_mk I_10 L_11, 0, 0))))) ∧ (¬ w = 0 → (am_meth d 184 [.ref 113, .int ho, .int (I_5 113 0)] (am_mk I_5 L_6, 0, 0) (am_ri (fun z_12 I_13 L_14 => R (some (.int (z_12 + (400 / (z_4 + 1))))) (am_mk I_13 L_14, 0, 0))))))))))) ∧ (¬ w ≤ 1 → (R (some (.int (1000000000 - (-2 : Int32)))) (am_mk (am_no I 2) L, 0, 0))))))))) ∧ (¬ (0 ≤ ho ∧ ho < I 113 4) → (R (some (.int (1000000000 - (-1 : Int32)))) (am_mk (am_no I 1) L, 0, 0))))) : am_Run am_X0 (am_meth d) 203 R 0 [some (.ref 113), some (.int ho), some (.int w), none] [] (am_mk I L, 0, 0) := by
  refine ar_aload_n (j := 0) (q := 1) rfl rfl rfl rfl ?_
  refine ar_iload_n (j := 1) (q := 2) rfl rfl rfl rfl ?_
  refine ar_invv (as := [.int ho]) (rest := []) (b2 := (0, 0)) (b3 := (0, 0)) (q := 5) rfl rfl rfl rfl mk_113 rfl rfl rfl rfl rfl ?_
  obtain ⟨hA, hB⟩ := h
  refine ok_M_isKeeper (by omega)  (fun c_1 => ?_) (fun c_1 => ?_)
  · have h := hA c_1
    clear hA hB
    show am_Run am_X0 (am_meth d) 203 R 5 [some (.ref 113), some (.int ho), some (.int w), none] [.int 1] (am_mk I L, 0, 0)
    refine ar_b0 am_c_ne (t := 14) (q := 8) rfl rfl rfl (fun _ => ?_) (fun c9 => absurd (by decide) c9)
    refine ar_iload_n (j := 2) (q := 15) rfl rfl rfl rfl ?_
    obtain ⟨hA, hB⟩ := h
    refine ar_b0 am_c_lt (t := 23) (q := 18) rfl rfl rfl (fun c_2 => ?_) (fun c_2 => ?_)
    · have h := hA c_2
      clear hA hB
      refine ar_aload_n (j := 0) (q := 24) rfl rfl rfl rfl ?_
      refine ar_bipush (v := (-2 : Int32)) (q := 26) rfl rfl rfl ?_
      refine ar_invv (as := [.int (-2 : Int32)]) (rest := []) (b2 := (0, 0)) (b3 := (0, 0)) (q := 29) rfl rfl rfl rfl mk_113 rfl rfl rfl rfl rfl ?_
      refine ok_far (j := 2) (by omega) (by decide) (by decide) ?_
      show am_Run am_X0 (am_meth d) 203 R 29 [some (.ref 113), some (.int ho), some (.int w), none] [.int (1000000000 - (-2 : Int32))] (am_mk (am_no I 2) L, 0, 0)
      exact ar_iret rfl rfl h
    · have h := hB c_2
      clear hA hB
      refine ar_iload_n (j := 2) (q := 19) rfl rfl rfl rfl ?_
      refine ar_iconst (v := 1) (q := 20) rfl rfl rfl ?_
      obtain ⟨hA, hB⟩ := h
      refine ar_br am_c_le (t := 30) (q := 23) rfl rfl rfl (fun c_3 => ?_) (fun c_3 => ?_)
      · have h := hA c_3
        clear hA hB
        refine ar_sipush (v := 400) (q := 33) rfl rfl rfl ?_
        refine ar_aload_n (j := 0) (q := 34) rfl rfl rfl rfl ?_
        refine ar_iload_n (j := 1) (q := 35) rfl rfl rfl rfl ?_
        refine ar_aload_n (j := 0) (q := 36) rfl rfl rfl rfl ?_
        refine ar_getf (v := .int (I 113 0)) (q := 39) rfl rfl mk_113 rfl rfl ?_
        refine ar_invv (as := [.int ho, .int (I 113 0)]) (rest := [.int 400]) (b2 := (0, 0)) (b3 := (0, 0)) (q := 42) rfl rfl rfl rfl mk_113 rfl rfl rfl rfl rfl ?_
        refine am_meth_mono d _ _ _ _ _ (fun v9 m9 h9 => ?_) h
        obtain ⟨z_4, I_5, L_6, rfl, rfl, h⟩ := h9
        show am_Run am_X0 (am_meth d) 203 R 42 [some (.ref 113), some (.int ho), some (.int w), none] [.int z_4, .int 400] (am_mk I_5 L_6, 0, 0)
        refine ar_iconst (v := 1) (q := 43) rfl rfl rfl ?_
        refine ar_ib (i := .iadd) (z := z_4 + 1) (q := 44) rfl rfl rfl rfl rfl ?_
        obtain ⟨hz_7, h⟩ := h
        refine ar_idiv (q := 45) rfl hz_7 rfl ?_
        refine ar_istore_n (j := 3) (ls' := [some (.ref 113), some (.int ho), some (.int w), some (.int (400 / (z_4 + 1)))]) (q := 46) rfl rfl rfl rfl rfl ?_
        refine ar_iload_n (j := 2) (q := 47) rfl rfl rfl rfl ?_
        obtain ⟨hA, hB⟩ := h
        refine ar_b0 am_c_ne (t := 64) (q := 50) rfl rfl rfl (fun c_8 => ?_) (fun c_8 => ?_)
        · have h := hB c_8
          clear hA hB
          refine ar_aload_n (j := 0) (q := 65) rfl rfl rfl rfl ?_
          refine ar_iload_n (j := 1) (q := 66) rfl rfl rfl rfl ?_
          refine ar_aload_n (j := 0) (q := 67) rfl rfl rfl rfl ?_
          refine ar_getf (v := .int (I_5 113 0)) (q := 70) rfl rfl mk_113 rfl rfl ?_
          refine ar_invv (as := [.int ho, .int (I_5 113 0)]) (rest := []) (b2 := (0, 0)) (b3 := (0, 0)) (q := 73) rfl rfl rfl rfl mk_113 rfl rfl rfl rfl rfl ?_
          refine am_meth_mono d _ _ _ _ _ (fun v9 m9 h9 => ?_) h
          obtain ⟨z_12, I_13, L_14, rfl, rfl, h⟩ := h9
          show am_Run am_X0 (am_meth d) 203 R 73 [some (.ref 113), some (.int ho), some (.int w), some (.int (400 / (z_4 + 1)))] [.int z_12] (am_mk I_13 L_14, 0, 0)
          refine ar_iload_n (j := 3) (q := 74) rfl rfl rfl rfl ?_
          refine ar_ib (i := .iadd) (z := z_12 + (400 / (z_4 + 1))) (q := 75) rfl rfl rfl rfl rfl ?_
          exact ar_iret rfl rfl h
        · have c_8 := Classical.not_not.mp c_8
          have h := hA c_8
          clear hA hB
          refine ar_aload_n (j := 0) (q := 51) rfl rfl rfl rfl ?_
          refine ar_iload_n (j := 1) (q := 52) rfl rfl rfl rfl ?_
          refine ar_aload_n (j := 0) (q := 53) rfl rfl rfl rfl ?_
          refine ar_getf (v := .int (I_5 113 0)) (q := 56) rfl rfl mk_113 rfl rfl ?_
          refine ar_invv (as := [.int ho, .int (I_5 113 0)]) (rest := []) (b2 := (0, 0)) (b3 := (0, 0)) (q := 59) rfl rfl rfl rfl mk_113 rfl rfl rfl rfl rfl ?_
          refine am_meth_mono d _ _ _ _ _ (fun v9 m9 h9 => ?_) h
          obtain ⟨z_9, I_10, L_11, rfl, rfl, h⟩ := h9
          show am_Run am_X0 (am_meth d) 203 R 59 [some (.ref 113), some (.int ho), some (.int w), some (.int (400 / (z_4 + 1)))] [.int z_9] (am_mk I_10 L_11, 0, 0)
          refine ar_iload_n (j := 3) (q := 60) rfl rfl rfl rfl ?_
          refine ar_ib (i := .isub) (z := z_9 - (400 / (z_4 + 1))) (q := 61) rfl rfl rfl rfl rfl ?_
          refine ar_goto (t := 75) rfl rfl ?_
          exact ar_iret rfl rfl h
      · have h := hB c_3
        clear hA hB
        refine ar_aload_n (j := 0) (q := 24) rfl rfl rfl rfl ?_
        refine ar_bipush (v := (-2 : Int32)) (q := 26) rfl rfl rfl ?_
        refine ar_invv (as := [.int (-2 : Int32)]) (rest := []) (b2 := (0, 0)) (b3 := (0, 0)) (q := 29) rfl rfl rfl rfl mk_113 rfl rfl rfl rfl rfl ?_
        refine ok_far (j := 2) (by omega) (by decide) (by decide) ?_
        show am_Run am_X0 (am_meth d) 203 R 29 [some (.ref 113), some (.int ho), some (.int w), none] [.int (1000000000 - (-2 : Int32))] (am_mk (am_no I 2) L, 0, 0)
        exact ar_iret rfl rfl h
  · have h := hB c_1
    clear hA hB
    show am_Run am_X0 (am_meth d) 203 R 5 [some (.ref 113), some (.int ho), some (.int w), none] [.int 0] (am_mk I L, 0, 0)
    refine ar_b0 am_c_ne (t := 14) (q := 8) rfl rfl rfl (fun c9 => absurd (by decide) c9) (fun _ => ?_)
    refine ar_aload_n (j := 0) (q := 9) rfl rfl rfl rfl ?_
    refine ar_iconst (v := (-1 : Int32)) (q := 10) rfl rfl rfl ?_
    refine ar_invv (as := [.int (-1 : Int32)]) (rest := []) (b2 := (0, 0)) (b3 := (0, 0)) (q := 13) rfl rfl rfl rfl mk_113 rfl rfl rfl rfl rfl ?_
    refine ok_far (j := 1) (by omega) (by decide) (by decide) ?_
    show am_Run am_X0 (am_meth d) 203 R 13 [some (.ref 113), some (.int ho), some (.int w), none] [.int (1000000000 - (-1 : Int32))] (am_mk (am_no I 1) L, 0, 0)
    exact ar_iret rfl rfl h
theorem r_H_count_0 {d : Nat} {R : am_R} {I : Nat → Nat → Int32} {L : Nat → Nat → Int64} {w : Int32} (h : ((w < 11 → ((((w : Int32).toInt = 0 → (R (some (.int (I 66 0))) (am_mk I L, 0, 0))) ∧ ((w : Int32).toInt = 1 → (R (some (.int (I 16 0))) (am_mk I L, 0, 0))) ∧ ((w : Int32).toInt = 2 → (R (some (.int (I 42 0))) (am_mk I L, 0, 0))) ∧ ((w : Int32).toInt = 3 → (R (some (.int (I 66 1))) (am_mk I L, 0, 0))) ∧ ((w : Int32).toInt = 4 → (am_meth d 124 [.ref 66, .int 0] (am_mk I L, 0, 0) (am_ri (fun z_3 I_4 L_5 => R (some (.int z_3)) (am_mk I_4 L_5, 0, 0))))) ∧ ((w : Int32).toInt = 5 → (am_meth d 124 [.ref 66, .int 1] (am_mk I L, 0, 0) (am_ri (fun z_6 I_7 L_8 => R (some (.int z_6)) (am_mk I_7 L_8, 0, 0))))) ∧ ((w : Int32).toInt = 6 → (am_meth d 124 [.ref 66, .int 2] (am_mk I L, 0, 0) (am_ri (fun z_9 I_10 L_11 => R (some (.int z_9)) (am_mk I_10 L_11, 0, 0))))) ∧ ((w : Int32).toInt = 7 → (R (some (.int (I 85 0))) (am_mk I L, 0, 0))) ∧ ((w : Int32).toInt = 8 → (R (some (.int (I 74 0))) (am_mk I L, 0, 0))) ∧ ((w : Int32).toInt = 9 → (am_meth d 84 [.ref 74, .int (I 66 0)] (am_mk I L, 0, 0) (am_ri (fun z_12 I_13 L_14 => R (some (.int z_12)) (am_mk I_13 L_14, 0, 0))))) ∧ ((w : Int32).toInt = 10 → (R (some (.int (I 91 0))) (am_mk I L, 0, 0))) ∧ ((w : Int32).toInt = 17 → (R (some (.int (I 95 0))) (am_mk I L, 0, 0))) ∧ ((w : Int32).toInt = 18 → (R (some (.int (I 97 0))) (am_mk I L, 0, 0))) ∧ (((w : Int32).toInt < 0 ∨ 18 < (w : Int32).toInt ∨ (w : Int32).toInt = 11 ∨ (w : Int32).toInt = 12 ∨ (w : Int32).toInt = 13 ∨ (w : Int32).toInt = 14 ∨ (w : Int32).toInt = 15 ∨ (w : Int32).toInt = 16) → (R (some (.int (-9 : Int32))) (am_mk I L, 0, 0)))))) ∧ (¬ w < 11 → (((w ≤ 16 → (∃ j_16 : Nat, j_16 < 7 ∧ w - 10 = nI j_16 ∧ (R (some (.int (I 1 j_16))) (am_mk I L, 0, 0)))) ∧ (¬ w ≤ 16 → ((((w : Int32).toInt = 0 → (R (some (.int (I 66 0))) (am_mk I L, 0, 0))) ∧ ((w : Int32).toInt = 1 → (R (some (.int (I 16 0))) (am_mk I L, 0, 0))) ∧ ((w : Int32).toInt = 2 → (R (some (.int (I 42 0))) (am_mk I L, 0, 0))) ∧ ((w : Int32).toInt = 3 → (R (some (.int (I 66 1))) (am_mk I L, 0, 0))) ∧ ((w : Int32).toInt = 4 → (am_meth d 124 [.ref 66, .int 0] (am_mk I L, 0, 0) (am_ri (fun z_20 I_21 L_22 => R (some (.int z_20)) (am_mk I_21 L_22, 0, 0))))) ∧ ((w : Int32).toInt = 5 → (am_meth d 124 [.ref 66, .int 1] (am_mk I L, 0, 0) (am_ri (fun z_23 I_24 L_25 => R (some (.int z_23)) (am_mk I_24 L_25, 0, 0))))) ∧ ((w : Int32).toInt = 6 → (am_meth d 124 [.ref 66, .int 2] (am_mk I L, 0, 0) (am_ri (fun z_26 I_27 L_28 => R (some (.int z_26)) (am_mk I_27 L_28, 0, 0))))) ∧ ((w : Int32).toInt = 7 → (R (some (.int (I 85 0))) (am_mk I L, 0, 0))) ∧ ((w : Int32).toInt = 8 → (R (some (.int (I 74 0))) (am_mk I L, 0, 0))) ∧ ((w : Int32).toInt = 9 → (am_meth d 84 [.ref 74, .int (I 66 0)] (am_mk I L, 0, 0) (am_ri (fun z_29 I_30 L_31 => R (some (.int z_29)) (am_mk I_30 L_31, 0, 0))))) ∧ ((w : Int32).toInt = 10 → (R (some (.int (I 91 0))) (am_mk I L, 0, 0))) ∧ ((w : Int32).toInt = 17 → (R (some (.int (I 95 0))) (am_mk I L, 0, 0))) ∧ ((w : Int32).toInt = 18 → (R (some (.int (I 97 0))) (am_mk I L, 0, 0))) ∧ (((w : Int32).toInt < 0 ∨ 18 < (w : Int32).toInt ∨ (w : Int32).toInt = 11 ∨ (w : Int32).toInt = 12 ∨ (w : Int32).toInt = 13 ∨ (w : Int32).toInt = 14 ∨ (w : Int32).toInt = 15 ∨ (w : Int32).toInt = 16) → (R (some (.int (-9 : Int32))) (am_mk I L, 0, 0))))))))))) : am_Run am_X0 (am_meth d) 42 R 0 [some (.ref 0), some (.int w)] [] (am_mk I L, 0, 0) := by
  refine ar_iload_n (j := 1) (q := 1) rfl rfl rfl rfl ?_
  refine ar_bipush (v := 11) (q := 3) rfl rfl rfl ?_
  obtain ⟨hA, hB⟩ := h
  refine ar_br am_c_lt (t := 22) (q := 6) rfl rfl rfl (fun c_1 => ?_) (fun c_1 => ?_)
  · have h := hA c_1
    clear hA hB
    refine ar_iload_n (j := 1) (q := 23) rfl rfl rfl rfl ?_
    obtain ⟨hT0, hT1, hT2, hT3, hT4, hT5, hT6, hT7, hT8, hT9, hT10, hT17, hT18, hD⟩ := h
    refine ar_tsw (t0 := 226) rfl rfl (fun c_2 => ?_) (fun c_2 => ?_)
    · have h := hD (by omega)
      clear hT0 hT1 hT2 hT3 hT4 hT5 hT6 hT7 hT8 hT9 hT10 hT17 hT18 hD
      refine ar_bipush (v := (-9 : Int32)) (q := 228) rfl rfl rfl ?_
      exact ar_iret rfl rfl h
    · rcases (show (w : Int32).toInt = 0 ∨ (w : Int32).toInt = 1 ∨ (w : Int32).toInt = 2 ∨ (w : Int32).toInt = 3 ∨ (w : Int32).toInt = 4 ∨ (w : Int32).toInt = 5 ∨ (w : Int32).toInt = 6 ∨ (w : Int32).toInt = 7 ∨ (w : Int32).toInt = 8 ∨ (w : Int32).toInt = 9 ∨ (w : Int32).toInt = 10 ∨ (w : Int32).toInt = 11 ∨ (w : Int32).toInt = 12 ∨ (w : Int32).toInt = 13 ∨ (w : Int32).toInt = 14 ∨ (w : Int32).toInt = 15 ∨ (w : Int32).toInt = 16 ∨ (w : Int32).toInt = 17 ∨ (w : Int32).toInt = 18 by omega) with e9 | e9 | e9 | e9 | e9 | e9 | e9 | e9 | e9 | e9 | e9 | e9 | e9 | e9 | e9 | e9 | e9 | e9 | e9
      · refine ⟨89, 112, by rw [e9]; rfl, rfl, ?_⟩
        have h := hT0 e9
        clear hT0 hT1 hT2 hT3 hT4 hT5 hT6 hT7 hT8 hT9 hT10 hT17 hT18 hD
        refine ar_aload_n (j := 0) (q := 113) rfl rfl rfl rfl ?_
        refine ar_getf (v := .ref 66) (q := 116) rfl rfl mk_0 rfl rfl ?_
        refine ar_getf (v := .int (I 66 0)) (q := 119) rfl rfl mk_66 rfl rfl ?_
        exact ar_iret rfl rfl h
      · refine ⟨97, 120, by rw [e9]; rfl, rfl, ?_⟩
        have h := hT1 e9
        clear hT0 hT1 hT2 hT3 hT4 hT5 hT6 hT7 hT8 hT9 hT10 hT17 hT18 hD
        refine ar_aload_n (j := 0) (q := 121) rfl rfl rfl rfl ?_
        refine ar_getf (v := .ref 16) (q := 124) rfl rfl mk_0 rfl rfl ?_
        refine ar_getf (v := .int (I 16 0)) (q := 127) rfl rfl mk_16 rfl rfl ?_
        exact ar_iret rfl rfl h
      · refine ⟨105, 128, by rw [e9]; rfl, rfl, ?_⟩
        have h := hT2 e9
        clear hT0 hT1 hT2 hT3 hT4 hT5 hT6 hT7 hT8 hT9 hT10 hT17 hT18 hD
        refine ar_aload_n (j := 0) (q := 129) rfl rfl rfl rfl ?_
        refine ar_getf (v := .ref 42) (q := 132) rfl rfl mk_0 rfl rfl ?_
        refine ar_getf (v := .int (I 42 0)) (q := 135) rfl rfl mk_42 rfl rfl ?_
        exact ar_iret rfl rfl h
      · refine ⟨113, 136, by rw [e9]; rfl, rfl, ?_⟩
        have h := hT3 e9
        clear hT0 hT1 hT2 hT3 hT4 hT5 hT6 hT7 hT8 hT9 hT10 hT17 hT18 hD
        refine ar_aload_n (j := 0) (q := 137) rfl rfl rfl rfl ?_
        refine ar_getf (v := .ref 66) (q := 140) rfl rfl mk_0 rfl rfl ?_
        refine ar_getf (v := .int (I 66 1)) (q := 143) rfl rfl mk_66 rfl rfl ?_
        exact ar_iret rfl rfl h
      · refine ⟨121, 144, by rw [e9]; rfl, rfl, ?_⟩
        have h := hT4 e9
        clear hT0 hT1 hT2 hT3 hT4 hT5 hT6 hT7 hT8 hT9 hT10 hT17 hT18 hD
        refine ar_aload_n (j := 0) (q := 145) rfl rfl rfl rfl ?_
        refine ar_getf (v := .ref 66) (q := 148) rfl rfl mk_0 rfl rfl ?_
        refine ar_iconst (v := 0) (q := 149) rfl rfl rfl ?_
        refine ar_invv (as := [.int 0]) (rest := []) (b2 := (0, 0)) (b3 := (0, 0)) (q := 152) rfl rfl rfl rfl mk_66 rfl rfl rfl rfl rfl ?_
        refine am_meth_mono d _ _ _ _ _ (fun v9 m9 h9 => ?_) h
        obtain ⟨z_3, I_4, L_5, rfl, rfl, h⟩ := h9
        show am_Run am_X0 (am_meth d) 42 R 152 [some (.ref 0), some (.int w)] [.int z_3] (am_mk I_4 L_5, 0, 0)
        exact ar_iret rfl rfl h
      · refine ⟨130, 153, by rw [e9]; rfl, rfl, ?_⟩
        have h := hT5 e9
        clear hT0 hT1 hT2 hT3 hT4 hT5 hT6 hT7 hT8 hT9 hT10 hT17 hT18 hD
        refine ar_aload_n (j := 0) (q := 154) rfl rfl rfl rfl ?_
        refine ar_getf (v := .ref 66) (q := 157) rfl rfl mk_0 rfl rfl ?_
        refine ar_iconst (v := 1) (q := 158) rfl rfl rfl ?_
        refine ar_invv (as := [.int 1]) (rest := []) (b2 := (0, 0)) (b3 := (0, 0)) (q := 161) rfl rfl rfl rfl mk_66 rfl rfl rfl rfl rfl ?_
        refine am_meth_mono d _ _ _ _ _ (fun v9 m9 h9 => ?_) h
        obtain ⟨z_6, I_7, L_8, rfl, rfl, h⟩ := h9
        show am_Run am_X0 (am_meth d) 42 R 161 [some (.ref 0), some (.int w)] [.int z_6] (am_mk I_7 L_8, 0, 0)
        exact ar_iret rfl rfl h
      · refine ⟨139, 162, by rw [e9]; rfl, rfl, ?_⟩
        have h := hT6 e9
        clear hT0 hT1 hT2 hT3 hT4 hT5 hT6 hT7 hT8 hT9 hT10 hT17 hT18 hD
        refine ar_aload_n (j := 0) (q := 163) rfl rfl rfl rfl ?_
        refine ar_getf (v := .ref 66) (q := 166) rfl rfl mk_0 rfl rfl ?_
        refine ar_iconst (v := 2) (q := 167) rfl rfl rfl ?_
        refine ar_invv (as := [.int 2]) (rest := []) (b2 := (0, 0)) (b3 := (0, 0)) (q := 170) rfl rfl rfl rfl mk_66 rfl rfl rfl rfl rfl ?_
        refine am_meth_mono d _ _ _ _ _ (fun v9 m9 h9 => ?_) h
        obtain ⟨z_9, I_10, L_11, rfl, rfl, h⟩ := h9
        show am_Run am_X0 (am_meth d) 42 R 170 [some (.ref 0), some (.int w)] [.int z_9] (am_mk I_10 L_11, 0, 0)
        exact ar_iret rfl rfl h
      · refine ⟨148, 171, by rw [e9]; rfl, rfl, ?_⟩
        have h := hT7 e9
        clear hT0 hT1 hT2 hT3 hT4 hT5 hT6 hT7 hT8 hT9 hT10 hT17 hT18 hD
        refine ar_aload_n (j := 0) (q := 172) rfl rfl rfl rfl ?_
        refine ar_getf (v := .ref 85) (q := 175) rfl rfl mk_0 rfl rfl ?_
        refine ar_getf (v := .int (I 85 0)) (q := 178) rfl rfl mk_85 rfl rfl ?_
        exact ar_iret rfl rfl h
      · refine ⟨156, 179, by rw [e9]; rfl, rfl, ?_⟩
        have h := hT8 e9
        clear hT0 hT1 hT2 hT3 hT4 hT5 hT6 hT7 hT8 hT9 hT10 hT17 hT18 hD
        refine ar_aload_n (j := 0) (q := 180) rfl rfl rfl rfl ?_
        refine ar_getf (v := .ref 74) (q := 183) rfl rfl mk_0 rfl rfl ?_
        refine ar_getf (v := .int (I 74 0)) (q := 186) rfl rfl mk_74 rfl rfl ?_
        exact ar_iret rfl rfl h
      · refine ⟨164, 187, by rw [e9]; rfl, rfl, ?_⟩
        have h := hT9 e9
        clear hT0 hT1 hT2 hT3 hT4 hT5 hT6 hT7 hT8 hT9 hT10 hT17 hT18 hD
        refine ar_aload_n (j := 0) (q := 188) rfl rfl rfl rfl ?_
        refine ar_getf (v := .ref 74) (q := 191) rfl rfl mk_0 rfl rfl ?_
        refine ar_aload_n (j := 0) (q := 192) rfl rfl rfl rfl ?_
        refine ar_getf (v := .ref 66) (q := 195) rfl rfl mk_0 rfl rfl ?_
        refine ar_getf (v := .int (I 66 0)) (q := 198) rfl rfl mk_66 rfl rfl ?_
        refine ar_invv (as := [.int (I 66 0)]) (rest := []) (b2 := (0, 0)) (b3 := (0, 0)) (q := 201) rfl rfl rfl rfl mk_74 rfl rfl rfl rfl rfl ?_
        refine am_meth_mono d _ _ _ _ _ (fun v9 m9 h9 => ?_) h
        obtain ⟨z_12, I_13, L_14, rfl, rfl, h⟩ := h9
        show am_Run am_X0 (am_meth d) 42 R 201 [some (.ref 0), some (.int w)] [.int z_12] (am_mk I_13 L_14, 0, 0)
        exact ar_iret rfl rfl h
      · refine ⟨179, 202, by rw [e9]; rfl, rfl, ?_⟩
        have h := hT10 e9
        clear hT0 hT1 hT2 hT3 hT4 hT5 hT6 hT7 hT8 hT9 hT10 hT17 hT18 hD
        refine ar_aload_n (j := 0) (q := 203) rfl rfl rfl rfl ?_
        refine ar_getf (v := .ref 91) (q := 206) rfl rfl mk_0 rfl rfl ?_
        refine ar_getf (v := .int (I 91 0)) (q := 209) rfl rfl mk_91 rfl rfl ?_
        exact ar_iret rfl rfl h
      · refine ⟨203, 226, by rw [e9]; rfl, rfl, ?_⟩
        have h := hD (by omega)
        clear hT0 hT1 hT2 hT3 hT4 hT5 hT6 hT7 hT8 hT9 hT10 hT17 hT18 hD
        refine ar_bipush (v := (-9 : Int32)) (q := 228) rfl rfl rfl ?_
        exact ar_iret rfl rfl h
      · refine ⟨203, 226, by rw [e9]; rfl, rfl, ?_⟩
        have h := hD (by omega)
        clear hT0 hT1 hT2 hT3 hT4 hT5 hT6 hT7 hT8 hT9 hT10 hT17 hT18 hD
        refine ar_bipush (v := (-9 : Int32)) (q := 228) rfl rfl rfl ?_
        exact ar_iret rfl rfl h
      · refine ⟨203, 226, by rw [e9]; rfl, rfl, ?_⟩
        have h := hD (by omega)
        clear hT0 hT1 hT2 hT3 hT4 hT5 hT6 hT7 hT8 hT9 hT10 hT17 hT18 hD
        refine ar_bipush (v := (-9 : Int32)) (q := 228) rfl rfl rfl ?_
        exact ar_iret rfl rfl h
      · refine ⟨203, 226, by rw [e9]; rfl, rfl, ?_⟩
        have h := hD (by omega)
        clear hT0 hT1 hT2 hT3 hT4 hT5 hT6 hT7 hT8 hT9 hT10 hT17 hT18 hD
        refine ar_bipush (v := (-9 : Int32)) (q := 228) rfl rfl rfl ?_
        exact ar_iret rfl rfl h
      · refine ⟨203, 226, by rw [e9]; rfl, rfl, ?_⟩
        have h := hD (by omega)
        clear hT0 hT1 hT2 hT3 hT4 hT5 hT6 hT7 hT8 hT9 hT10 hT17 hT18 hD
        refine ar_bipush (v := (-9 : Int32)) (q := 228) rfl rfl rfl ?_
        exact ar_iret rfl rfl h
      · refine ⟨203, 226, by rw [e9]; rfl, rfl, ?_⟩
        have h := hD (by omega)
        clear hT0 hT1 hT2 hT3 hT4 hT5 hT6 hT7 hT8 hT9 hT10 hT17 hT18 hD
        refine ar_bipush (v := (-9 : Int32)) (q := 228) rfl rfl rfl ?_
        exact ar_iret rfl rfl h
      · refine ⟨187, 210, by rw [e9]; rfl, rfl, ?_⟩
        have h := hT17 e9
        clear hT0 hT1 hT2 hT3 hT4 hT5 hT6 hT7 hT8 hT9 hT10 hT17 hT18 hD
        refine ar_aload_n (j := 0) (q := 211) rfl rfl rfl rfl ?_
        refine ar_getf (v := .ref 95) (q := 214) rfl rfl mk_0 rfl rfl ?_
        refine ar_getf (v := .int (I 95 0)) (q := 217) rfl rfl mk_95 rfl rfl ?_
        exact ar_iret rfl rfl h
      · refine ⟨195, 218, by rw [e9]; rfl, rfl, ?_⟩
        have h := hT18 e9
        clear hT0 hT1 hT2 hT3 hT4 hT5 hT6 hT7 hT8 hT9 hT10 hT17 hT18 hD
        refine ar_aload_n (j := 0) (q := 219) rfl rfl rfl rfl ?_
        refine ar_getf (v := .ref 97) (q := 222) rfl rfl mk_0 rfl rfl ?_
        refine ar_getf (v := .int (I 97 0)) (q := 225) rfl rfl mk_97 rfl rfl ?_
        exact ar_iret rfl rfl h
  · have h := hB c_1
    clear hA hB
    refine ar_iload_n (j := 1) (q := 7) rfl rfl rfl rfl ?_
    refine ar_bipush (v := 16) (q := 9) rfl rfl rfl ?_
    obtain ⟨hA, hB⟩ := h
    refine ar_br am_d_gt (t := 22) (q := 12) rfl rfl rfl (fun c_15 => ?_) (fun c_15 => ?_)
    · have h := hB c_15
      clear hA hB
      refine ar_iload_n (j := 1) (q := 23) rfl rfl rfl rfl ?_
      obtain ⟨hT0, hT1, hT2, hT3, hT4, hT5, hT6, hT7, hT8, hT9, hT10, hT17, hT18, hD⟩ := h
      refine ar_tsw (t0 := 226) rfl rfl (fun c_19 => ?_) (fun c_19 => ?_)
      · have h := hD (by omega)
        clear hT0 hT1 hT2 hT3 hT4 hT5 hT6 hT7 hT8 hT9 hT10 hT17 hT18 hD
        refine ar_bipush (v := (-9 : Int32)) (q := 228) rfl rfl rfl ?_
        exact ar_iret rfl rfl h
      · rcases (show (w : Int32).toInt = 0 ∨ (w : Int32).toInt = 1 ∨ (w : Int32).toInt = 2 ∨ (w : Int32).toInt = 3 ∨ (w : Int32).toInt = 4 ∨ (w : Int32).toInt = 5 ∨ (w : Int32).toInt = 6 ∨ (w : Int32).toInt = 7 ∨ (w : Int32).toInt = 8 ∨ (w : Int32).toInt = 9 ∨ (w : Int32).toInt = 10 ∨ (w : Int32).toInt = 11 ∨ (w : Int32).toInt = 12 ∨ (w : Int32).toInt = 13 ∨ (w : Int32).toInt = 14 ∨ (w : Int32).toInt = 15 ∨ (w : Int32).toInt = 16 ∨ (w : Int32).toInt = 17 ∨ (w : Int32).toInt = 18 by omega) with e9 | e9 | e9 | e9 | e9 | e9 | e9 | e9 | e9 | e9 | e9 | e9 | e9 | e9 | e9 | e9 | e9 | e9 | e9
        · refine ⟨89, 112, by rw [e9]; rfl, rfl, ?_⟩
          have h := hT0 e9
          clear hT0 hT1 hT2 hT3 hT4 hT5 hT6 hT7 hT8 hT9 hT10 hT17 hT18 hD
          refine ar_aload_n (j := 0) (q := 113) rfl rfl rfl rfl ?_
          refine ar_getf (v := .ref 66) (q := 116) rfl rfl mk_0 rfl rfl ?_
          refine ar_getf (v := .int (I 66 0)) (q := 119) rfl rfl mk_66 rfl rfl ?_
          exact ar_iret rfl rfl h
        · refine ⟨97, 120, by rw [e9]; rfl, rfl, ?_⟩
          have h := hT1 e9
          clear hT0 hT1 hT2 hT3 hT4 hT5 hT6 hT7 hT8 hT9 hT10 hT17 hT18 hD
          refine ar_aload_n (j := 0) (q := 121) rfl rfl rfl rfl ?_
          refine ar_getf (v := .ref 16) (q := 124) rfl rfl mk_0 rfl rfl ?_
          refine ar_getf (v := .int (I 16 0)) (q := 127) rfl rfl mk_16 rfl rfl ?_
          exact ar_iret rfl rfl h
        · refine ⟨105, 128, by rw [e9]; rfl, rfl, ?_⟩
          have h := hT2 e9
          clear hT0 hT1 hT2 hT3 hT4 hT5 hT6 hT7 hT8 hT9 hT10 hT17 hT18 hD
          refine ar_aload_n (j := 0) (q := 129) rfl rfl rfl rfl ?_
          refine ar_getf (v := .ref 42) (q := 132) rfl rfl mk_0 rfl rfl ?_
          refine ar_getf (v := .int (I 42 0)) (q := 135) rfl rfl mk_42 rfl rfl ?_
          exact ar_iret rfl rfl h
        · refine ⟨113, 136, by rw [e9]; rfl, rfl, ?_⟩
          have h := hT3 e9
          clear hT0 hT1 hT2 hT3 hT4 hT5 hT6 hT7 hT8 hT9 hT10 hT17 hT18 hD
          refine ar_aload_n (j := 0) (q := 137) rfl rfl rfl rfl ?_
          refine ar_getf (v := .ref 66) (q := 140) rfl rfl mk_0 rfl rfl ?_
          refine ar_getf (v := .int (I 66 1)) (q := 143) rfl rfl mk_66 rfl rfl ?_
          exact ar_iret rfl rfl h
        · refine ⟨121, 144, by rw [e9]; rfl, rfl, ?_⟩
          have h := hT4 e9
          clear hT0 hT1 hT2 hT3 hT4 hT5 hT6 hT7 hT8 hT9 hT10 hT17 hT18 hD
          refine ar_aload_n (j := 0) (q := 145) rfl rfl rfl rfl ?_
          refine ar_getf (v := .ref 66) (q := 148) rfl rfl mk_0 rfl rfl ?_
          refine ar_iconst (v := 0) (q := 149) rfl rfl rfl ?_
          refine ar_invv (as := [.int 0]) (rest := []) (b2 := (0, 0)) (b3 := (0, 0)) (q := 152) rfl rfl rfl rfl mk_66 rfl rfl rfl rfl rfl ?_
          refine am_meth_mono d _ _ _ _ _ (fun v9 m9 h9 => ?_) h
          obtain ⟨z_20, I_21, L_22, rfl, rfl, h⟩ := h9
          show am_Run am_X0 (am_meth d) 42 R 152 [some (.ref 0), some (.int w)] [.int z_20] (am_mk I_21 L_22, 0, 0)
          exact ar_iret rfl rfl h
        · refine ⟨130, 153, by rw [e9]; rfl, rfl, ?_⟩
          have h := hT5 e9
          clear hT0 hT1 hT2 hT3 hT4 hT5 hT6 hT7 hT8 hT9 hT10 hT17 hT18 hD
          refine ar_aload_n (j := 0) (q := 154) rfl rfl rfl rfl ?_
          refine ar_getf (v := .ref 66) (q := 157) rfl rfl mk_0 rfl rfl ?_
          refine ar_iconst (v := 1) (q := 158) rfl rfl rfl ?_
          refine ar_invv (as := [.int 1]) (rest := []) (b2 := (0, 0)) (b3 := (0, 0)) (q := 161) rfl rfl rfl rfl mk_66 rfl rfl rfl rfl rfl ?_
          refine am_meth_mono d _ _ _ _ _ (fun v9 m9 h9 => ?_) h
          obtain ⟨z_23, I_24, L_25, rfl, rfl, h⟩ := h9
          show am_Run am_X0 (am_meth d) 42 R 161 [some (.ref 0), some (.int w)] [.int z_23] (am_mk I_24 L_25, 0, 0)
          exact ar_iret rfl rfl h
        · refine ⟨139, 162, by rw [e9]; rfl, rfl, ?_⟩
          have h := hT6 e9
          clear hT0 hT1 hT2 hT3 hT4 hT5 hT6 hT7 hT8 hT9 hT10 hT17 hT18 hD
          refine ar_aload_n (j := 0) (q := 163) rfl rfl rfl rfl ?_
          refine ar_getf (v := .ref 66) (q := 166) rfl rfl mk_0 rfl rfl ?_
          refine ar_iconst (v := 2) (q := 167) rfl rfl rfl ?_
          refine ar_invv (as := [.int 2]) (rest := []) (b2 := (0, 0)) (b3 := (0, 0)) (q := 170) rfl rfl rfl rfl mk_66 rfl rfl rfl rfl rfl ?_
          refine am_meth_mono d _ _ _ _ _ (fun v9 m9 h9 => ?_) h
          obtain ⟨z_26, I_27, L_28, rfl, rfl, h⟩ := h9
          show am_Run am_X0 (am_meth d) 42 R 170 [some (.ref 0), some (.int w)] [.int z_26] (am_mk I_27 L_28, 0, 0)
          exact ar_iret rfl rfl h
        · refine ⟨148, 171, by rw [e9]; rfl, rfl, ?_⟩
          have h := hT7 e9
          clear hT0 hT1 hT2 hT3 hT4 hT5 hT6 hT7 hT8 hT9 hT10 hT17 hT18 hD
          refine ar_aload_n (j := 0) (q := 172) rfl rfl rfl rfl ?_
          refine ar_getf (v := .ref 85) (q := 175) rfl rfl mk_0 rfl rfl ?_
          refine ar_getf (v := .int (I 85 0)) (q := 178) rfl rfl mk_85 rfl rfl ?_
          exact ar_iret rfl rfl h
        · refine ⟨156, 179, by rw [e9]; rfl, rfl, ?_⟩
          have h := hT8 e9
          clear hT0 hT1 hT2 hT3 hT4 hT5 hT6 hT7 hT8 hT9 hT10 hT17 hT18 hD
          refine ar_aload_n (j := 0) (q := 180) rfl rfl rfl rfl ?_
          refine ar_getf (v := .ref 74) (q := 183) rfl rfl mk_0 rfl rfl ?_
          refine ar_getf (v := .int (I 74 0)) (q := 186) rfl rfl mk_74 rfl rfl ?_
          exact ar_iret rfl rfl h
        · refine ⟨164, 187, by rw [e9]; rfl, rfl, ?_⟩
          have h := hT9 e9
          clear hT0 hT1 hT2 hT3 hT4 hT5 hT6 hT7 hT8 hT9 hT10 hT17 hT18 hD
          refine ar_aload_n (j := 0) (q := 188) rfl rfl rfl rfl ?_
          refine ar_getf (v := .ref 74) (q := 191) rfl rfl mk_0 rfl rfl ?_
          refine ar_aload_n (j := 0) (q := 192) rfl rfl rfl rfl ?_
          refine ar_getf (v := .ref 66) (q := 195) rfl rfl mk_0 rfl rfl ?_
          refine ar_getf (v := .int (I 66 0)) (q := 198) rfl rfl mk_66 rfl rfl ?_
          refine ar_invv (as := [.int (I 66 0)]) (rest := []) (b2 := (0, 0)) (b3 := (0, 0)) (q := 201) rfl rfl rfl rfl mk_74 rfl rfl rfl rfl rfl ?_
          refine am_meth_mono d _ _ _ _ _ (fun v9 m9 h9 => ?_) h
          obtain ⟨z_29, I_30, L_31, rfl, rfl, h⟩ := h9
          show am_Run am_X0 (am_meth d) 42 R 201 [some (.ref 0), some (.int w)] [.int z_29] (am_mk I_30 L_31, 0, 0)
          exact ar_iret rfl rfl h
        · refine ⟨179, 202, by rw [e9]; rfl, rfl, ?_⟩
          have h := hT10 e9
          clear hT0 hT1 hT2 hT3 hT4 hT5 hT6 hT7 hT8 hT9 hT10 hT17 hT18 hD
          refine ar_aload_n (j := 0) (q := 203) rfl rfl rfl rfl ?_
          refine ar_getf (v := .ref 91) (q := 206) rfl rfl mk_0 rfl rfl ?_
          refine ar_getf (v := .int (I 91 0)) (q := 209) rfl rfl mk_91 rfl rfl ?_
          exact ar_iret rfl rfl h
        · refine ⟨203, 226, by rw [e9]; rfl, rfl, ?_⟩
          have h := hD (by omega)
          clear hT0 hT1 hT2 hT3 hT4 hT5 hT6 hT7 hT8 hT9 hT10 hT17 hT18 hD
          refine ar_bipush (v := (-9 : Int32)) (q := 228) rfl rfl rfl ?_
          exact ar_iret rfl rfl h
        · refine ⟨203, 226, by rw [e9]; rfl, rfl, ?_⟩
          have h := hD (by omega)
          clear hT0 hT1 hT2 hT3 hT4 hT5 hT6 hT7 hT8 hT9 hT10 hT17 hT18 hD
          refine ar_bipush (v := (-9 : Int32)) (q := 228) rfl rfl rfl ?_
          exact ar_iret rfl rfl h
        · refine ⟨203, 226, by rw [e9]; rfl, rfl, ?_⟩
          have h := hD (by omega)
          clear hT0 hT1 hT2 hT3 hT4 hT5 hT6 hT7 hT8 hT9 hT10 hT17 hT18 hD
          refine ar_bipush (v := (-9 : Int32)) (q := 228) rfl rfl rfl ?_
          exact ar_iret rfl rfl h
        · refine ⟨203, 226, by rw [e9]; rfl, rfl, ?_⟩
          have h := hD (by omega)
          clear hT0 hT1 hT2 hT3 hT4 hT5 hT6 hT7 hT8 hT9 hT10 hT17 hT18 hD
          refine ar_bipush (v := (-9 : Int32)) (q := 228) rfl rfl rfl ?_
          exact ar_iret rfl rfl h
        · refine ⟨203, 226, by rw [e9]; rfl, rfl, ?_⟩
          have h := hD (by omega)
          clear hT0 hT1 hT2 hT3 hT4 hT5 hT6 hT7 hT8 hT9 hT10 hT17 hT18 hD
          refine ar_bipush (v := (-9 : Int32)) (q := 228) rfl rfl rfl ?_
          exact ar_iret rfl rfl h
        · refine ⟨203, 226, by rw [e9]; rfl, rfl, ?_⟩
          have h := hD (by omega)
          clear hT0 hT1 hT2 hT3 hT4 hT5 hT6 hT7 hT8 hT9 hT10 hT17 hT18 hD
          refine ar_bipush (v := (-9 : Int32)) (q := 228) rfl rfl rfl ?_
          exact ar_iret rfl rfl h
        · refine ⟨187, 210, by rw [e9]; rfl, rfl, ?_⟩
          have h := hT17 e9
          clear hT0 hT1 hT2 hT3 hT4 hT5 hT6 hT7 hT8 hT9 hT10 hT17 hT18 hD
          refine ar_aload_n (j := 0) (q := 211) rfl rfl rfl rfl ?_
          refine ar_getf (v := .ref 95) (q := 214) rfl rfl mk_0 rfl rfl ?_
          refine ar_getf (v := .int (I 95 0)) (q := 217) rfl rfl mk_95 rfl rfl ?_
          exact ar_iret rfl rfl h
        · refine ⟨195, 218, by rw [e9]; rfl, rfl, ?_⟩
          have h := hT18 e9
          clear hT0 hT1 hT2 hT3 hT4 hT5 hT6 hT7 hT8 hT9 hT10 hT17 hT18 hD
          refine ar_aload_n (j := 0) (q := 219) rfl rfl rfl rfl ?_
          refine ar_getf (v := .ref 97) (q := 222) rfl rfl mk_0 rfl rfl ?_
          refine ar_getf (v := .int (I 97 0)) (q := 225) rfl rfl mk_97 rfl rfl ?_
          exact ar_iret rfl rfl h
    · have c_15 := Classical.not_not.mp c_15
      have h := hA c_15
      clear hA hB
      refine ar_aload_n (j := 0) (q := 13) rfl rfl rfl rfl ?_
      refine ar_getf (v := .ref 1) (q := 16) rfl rfl mk_0 rfl rfl ?_
      refine ar_iload_n (j := 1) (q := 17) rfl rfl rfl rfl ?_
      refine ar_bipush (v := 10) (q := 19) rfl rfl rfl ?_
      refine ar_ib (i := .isub) (z := w - 10) (q := 20) rfl rfl rfl rfl rfl ?_
      obtain ⟨j_16, hx_17, hi_18, h⟩ := h
      refine ar_iald (v := I 1 j_16) (q := 21) rfl mk_1 (am_inE hi_18 hx_17 (by decide)) (am_clE hi_18 hx_17 (by decide)) rfl ?_
      exact ar_iret rfl rfl h
theorem r_M_count_0 {d : Nat} {R : am_R} {I : Nat → Nat → Int32} {L : Nat → Nat → Int64} {w : Int32} (h : ((w < 11 → (((w < 4 → (((w = 0 → (R (some (.int (I 113 0))) (am_mk I L, 0, 0))) ∧ (¬ w = 0 → (((w = 1 → (R (some (.int (I 113 4))) (am_mk I L, 0, 0))) ∧ (¬ w = 1 → (((w = 2 → (R (some (.int (I 113 10))) (am_mk I L, 0, 0))) ∧ (¬ w = 2 → (((w = 3 → (R (some (.int (I 113 14))) (am_mk I L, 0, 0))) ∧ (¬ w = 3 → (((w = 7 → (R (some (.int (I 113 25))) (am_mk I L, 0, 0))) ∧ (¬ w = 7 → (((w = 8 → (am_meth d 241 [.ref 113, .int 0] (am_mk I L, 0, 0) (am_ri (fun z_9 I_10 L_11 => R (some (.int z_9)) (am_mk I_10 L_11, 0, 0))))) ∧ (¬ w = 8 → (((w = 9 → (am_meth d 241 [.ref 113, .int 1] (am_mk I L, 0, 0) (am_ri (fun z_13 I_14 L_15 => R (some (.int z_13)) (am_mk I_14 L_15, 0, 0))))) ∧ (¬ w = 9 → (((w = 10 → (R (some (.int (I 113 24))) (am_mk I L, 0, 0))) ∧ (¬ w = 10 → (((w = 17 → (R (some (.int (I 113 39))) (am_mk I L, 0, 0))) ∧ (¬ w = 17 → (((w = 18 → (R (some (.int (I 113 41))) (am_mk I L, 0, 0))) ∧ (¬ w = 18 → (R (some (.int (-9 : Int32))) (am_mk I L, 0, 0))))))))))))))))))))))))))))))))) ∧ (¬ w < 4 → (((w ≤ 6 → (am_meth d 240 [.ref 113, .int (w - 4)] (am_mk I L, 0, 0) (am_ri (fun z_20 I_21 L_22 => R (some (.int z_20)) (am_mk I_21 L_22, 0, 0))))) ∧ (¬ w ≤ 6 → (((w = 0 → (R (some (.int (I 113 0))) (am_mk I L, 0, 0))) ∧ (¬ w = 0 → (((w = 1 → (R (some (.int (I 113 4))) (am_mk I L, 0, 0))) ∧ (¬ w = 1 → (((w = 2 → (R (some (.int (I 113 10))) (am_mk I L, 0, 0))) ∧ (¬ w = 2 → (((w = 3 → (R (some (.int (I 113 14))) (am_mk I L, 0, 0))) ∧ (¬ w = 3 → (((w = 7 → (R (some (.int (I 113 25))) (am_mk I L, 0, 0))) ∧ (¬ w = 7 → (((w = 8 → (am_meth d 241 [.ref 113, .int 0] (am_mk I L, 0, 0) (am_ri (fun z_29 I_30 L_31 => R (some (.int z_29)) (am_mk I_30 L_31, 0, 0))))) ∧ (¬ w = 8 → (((w = 9 → (am_meth d 241 [.ref 113, .int 1] (am_mk I L, 0, 0) (am_ri (fun z_33 I_34 L_35 => R (some (.int z_33)) (am_mk I_34 L_35, 0, 0))))) ∧ (¬ w = 9 → (((w = 10 → (R (some (.int (I 113 24))) (am_mk I L, 0, 0))) ∧ (¬ w = 10 → (((w = 17 → (R (some (.int (I 113 39))) (am_mk I L, 0, 0))) ∧ (¬ w = 17 → (((w = 18 → (R (some (.int (I 113 41))) (am_mk I L, 0, 0))) ∧ (¬ w = 18 → (R (some (.int (-9 : Int32))) (am_mk I L, 0, 0))))))))))))))))))))))))))))))))))))))) ∧ (¬ w < 11 → (((w ≤ 16 → (∃ j_40 : Nat, j_40 < 7 ∧ w - 10 = nI j_40 ∧ (R (some (.int (I 156 j_40))) (am_mk I L, 0, 0)))) ∧ (¬ w ≤ 16 → (((w < 4 → (((w = 0 → (R (some (.int (I 113 0))) (am_mk I L, 0, 0))) ∧ (¬ w = 0 → (((w = 1 → (R (some (.int (I 113 4))) (am_mk I L, 0, 0))) ∧ (¬ w = 1 → (((w = 2 → (R (some (.int (I 113 10))) (am_mk I L, 0, 0))) ∧ (¬ w = 2 → (((w = 3 → (R (some (.int (I 113 14))) (am_mk I L, 0, 0))) ∧ (¬ w = 3 → (((w = 7 → (R (some (.int (I 113 25))) (am_mk I L, 0, 0))) ∧ (¬ w = 7 → (((w = 8 → (am_meth d 241 [.ref 113, .int 0] (am_mk I L, 0, 0) (am_ri (fun z_50 I_51 L_52 => R (some (.int z_50)) (am_mk I_51 L_52, 0, 0))))) ∧ (¬ w = 8 → (((w = 9 → (am_meth d 241 [.ref 113, .int 1] (am_mk I L, 0, 0) (am_ri (fun z_54 I_55 L_56 => R (some (.int z_54)) (am_mk I_55 L_56, 0, 0))))) ∧ (¬ w = 9 → (((w = 10 → (R (some (.int (I 113 24))) (am_mk I L, 0, 0))) ∧ (¬ w = 10 → (((w = 17 → (R (some (.int (I 113 39))) (am_mk I L, 0, 0))) ∧ (¬ w = 17 → (((w = 18 → (R (some (.int (I 113 41))) (am_mk I L, 0, 0))) ∧ (¬ w = 18 → (R (some (.int (-9 : Int32))) (am_mk I L, 0, 0))))))))))))))))))))))))))))))))) ∧ (¬ w < 4 → (((w ≤ 6 → (am_meth d 240 [.ref 113, .int (w - 4)] (am_mk I L, 0, 0) (am_ri (fun z_61 I_62 L_63 => R (some (.int z_61)) (am_mk I_62 L_63, 0, 0))))) ∧ (¬ w ≤ 6 → (((w = 0 → (R (some (.int (I 113 0))) (am_mk I L, 0, 0))) ∧ (¬ w = 0 → (((w = 1 → (R (some (.int (I 113 4))) (am_mk I L, 0, 0))) ∧ (¬ w = 1 → (((w = 2 → (R (some (.int (I 113 10))) (am_mk I L, 0, 0))) ∧ (¬ w = 2 → (((w = 3 → (R (some (.int (I 113 14))) (am_mk I L, 0, 0))) ∧ (¬ w = 3 → (((w = 7 → (R (some (.int (I 113 25))) (am_mk I L, 0, 0))) ∧ (¬ w = 7 → (((w = 8 → (am_meth d 241 [.ref 113, .int 0] (am_mk I L, 0, 0) (am_ri (fun z_70 I_71 L_72 => R (some (.int z_70)) (am_mk I_71 L_72, 0, 0))))) ∧ (¬ w = 8 → (((w = 9 → (am_meth d 241 [.ref 113, .int 1] (am_mk I L, 0, 0) (am_ri (fun z_74 I_75 L_76 => R (some (.int z_74)) (am_mk I_75 L_76, 0, 0))))) ∧ (¬ w = 9 → (((w = 10 → (R (some (.int (I 113 24))) (am_mk I L, 0, 0))) ∧ (¬ w = 10 → (((w = 17 → (R (some (.int (I 113 39))) (am_mk I L, 0, 0))) ∧ (¬ w = 17 → (((w = 18 → (R (some (.int (I 113 41))) (am_mk I L, 0, 0))) ∧ (¬ w = 18 → (R (some (.int (-9 : Int32))) (am_mk I L, 0, 0)))))))))))))))))))))))))))))))))))))))))))) : am_Run am_X0 (am_meth d) 239 R 0 [some (.ref 113), some (.int w)] [] (am_mk I L, 0, 0) := by
  refine ar_iload_n (j := 1) (q := 1) rfl rfl rfl rfl ?_
  refine ar_bipush (v := 11) (q := 3) rfl rfl rfl ?_
  obtain ⟨hA, hB⟩ := h
  refine ar_br am_c_lt (t := 22) (q := 6) rfl rfl rfl (fun c_1 => ?_) (fun c_1 => ?_)
  · have h := hA c_1
    clear hA hB
    refine ar_iload_n (j := 1) (q := 23) rfl rfl rfl rfl ?_
    refine ar_iconst (v := 4) (q := 24) rfl rfl rfl ?_
    obtain ⟨hA, hB⟩ := h
    refine ar_br am_c_lt (t := 41) (q := 27) rfl rfl rfl (fun c_2 => ?_) (fun c_2 => ?_)
    · have h := hA c_2
      clear hA hB
      refine ar_iload_n (j := 1) (q := 42) rfl rfl rfl rfl ?_
      obtain ⟨hA, hB⟩ := h
      refine ar_b0 am_c_ne (t := 50) (q := 45) rfl rfl rfl (fun c_3 => ?_) (fun c_3 => ?_)
      · have h := hB c_3
        clear hA hB
        refine ar_iload_n (j := 1) (q := 51) rfl rfl rfl rfl ?_
        refine ar_iconst (v := 1) (q := 52) rfl rfl rfl ?_
        obtain ⟨hA, hB⟩ := h
        refine ar_br am_c_ne (t := 60) (q := 55) rfl rfl rfl (fun c_4 => ?_) (fun c_4 => ?_)
        · have h := hB c_4
          clear hA hB
          refine ar_iload_n (j := 1) (q := 61) rfl rfl rfl rfl ?_
          refine ar_iconst (v := 2) (q := 62) rfl rfl rfl ?_
          obtain ⟨hA, hB⟩ := h
          refine ar_br am_c_ne (t := 70) (q := 65) rfl rfl rfl (fun c_5 => ?_) (fun c_5 => ?_)
          · have h := hB c_5
            clear hA hB
            refine ar_iload_n (j := 1) (q := 71) rfl rfl rfl rfl ?_
            refine ar_iconst (v := 3) (q := 72) rfl rfl rfl ?_
            obtain ⟨hA, hB⟩ := h
            refine ar_br am_c_ne (t := 80) (q := 75) rfl rfl rfl (fun c_6 => ?_) (fun c_6 => ?_)
            · have h := hB c_6
              clear hA hB
              refine ar_iload_n (j := 1) (q := 81) rfl rfl rfl rfl ?_
              refine ar_bipush (v := 7) (q := 83) rfl rfl rfl ?_
              obtain ⟨hA, hB⟩ := h
              refine ar_br am_c_ne (t := 91) (q := 86) rfl rfl rfl (fun c_7 => ?_) (fun c_7 => ?_)
              · have h := hB c_7
                clear hA hB
                refine ar_iload_n (j := 1) (q := 92) rfl rfl rfl rfl ?_
                refine ar_bipush (v := 8) (q := 94) rfl rfl rfl ?_
                obtain ⟨hA, hB⟩ := h
                refine ar_br am_c_ne (t := 103) (q := 97) rfl rfl rfl (fun c_8 => ?_) (fun c_8 => ?_)
                · have h := hB c_8
                  clear hA hB
                  refine ar_iload_n (j := 1) (q := 104) rfl rfl rfl rfl ?_
                  refine ar_bipush (v := 9) (q := 106) rfl rfl rfl ?_
                  obtain ⟨hA, hB⟩ := h
                  refine ar_br am_c_ne (t := 115) (q := 109) rfl rfl rfl (fun c_12 => ?_) (fun c_12 => ?_)
                  · have h := hB c_12
                    clear hA hB
                    refine ar_iload_n (j := 1) (q := 116) rfl rfl rfl rfl ?_
                    refine ar_bipush (v := 10) (q := 118) rfl rfl rfl ?_
                    obtain ⟨hA, hB⟩ := h
                    refine ar_br am_c_ne (t := 126) (q := 121) rfl rfl rfl (fun c_16 => ?_) (fun c_16 => ?_)
                    · have h := hB c_16
                      clear hA hB
                      refine ar_iload_n (j := 1) (q := 127) rfl rfl rfl rfl ?_
                      refine ar_bipush (v := 17) (q := 129) rfl rfl rfl ?_
                      obtain ⟨hA, hB⟩ := h
                      refine ar_br am_c_ne (t := 137) (q := 132) rfl rfl rfl (fun c_17 => ?_) (fun c_17 => ?_)
                      · have h := hB c_17
                        clear hA hB
                        refine ar_iload_n (j := 1) (q := 138) rfl rfl rfl rfl ?_
                        refine ar_bipush (v := 18) (q := 140) rfl rfl rfl ?_
                        obtain ⟨hA, hB⟩ := h
                        refine ar_br am_c_ne (t := 150) (q := 143) rfl rfl rfl (fun c_18 => ?_) (fun c_18 => ?_)
                        · have h := hB c_18
                          clear hA hB
                          refine ar_bipush (v := (-9 : Int32)) (q := 152) rfl rfl rfl ?_
                          exact ar_iret rfl rfl h
                        · have c_18 := Classical.not_not.mp c_18
                          have h := hA c_18
                          clear hA hB
                          refine ar_aload_n (j := 0) (q := 144) rfl rfl rfl rfl ?_
                          refine ar_getf (v := .int (I 113 41)) (q := 147) rfl rfl mk_113 rfl rfl ?_
                          refine ar_goto (t := 152) rfl rfl ?_
                          exact ar_iret rfl rfl h
                      · have c_17 := Classical.not_not.mp c_17
                        have h := hA c_17
                        clear hA hB
                        refine ar_aload_n (j := 0) (q := 133) rfl rfl rfl rfl ?_
                        refine ar_getf (v := .int (I 113 39)) (q := 136) rfl rfl mk_113 rfl rfl ?_
                        exact ar_iret rfl rfl h
                    · have c_16 := Classical.not_not.mp c_16
                      have h := hA c_16
                      clear hA hB
                      refine ar_aload_n (j := 0) (q := 122) rfl rfl rfl rfl ?_
                      refine ar_getf (v := .int (I 113 24)) (q := 125) rfl rfl mk_113 rfl rfl ?_
                      exact ar_iret rfl rfl h
                  · have c_12 := Classical.not_not.mp c_12
                    have h := hA c_12
                    clear hA hB
                    refine ar_aload_n (j := 0) (q := 110) rfl rfl rfl rfl ?_
                    refine ar_iconst (v := 1) (q := 111) rfl rfl rfl ?_
                    refine ar_invv (as := [.int 1]) (rest := []) (b2 := (0, 0)) (b3 := (0, 0)) (q := 114) rfl rfl rfl rfl mk_113 rfl rfl rfl rfl rfl ?_
                    refine am_meth_mono d _ _ _ _ _ (fun v9 m9 h9 => ?_) h
                    obtain ⟨z_13, I_14, L_15, rfl, rfl, h⟩ := h9
                    show am_Run am_X0 (am_meth d) 239 R 114 [some (.ref 113), some (.int w)] [.int z_13] (am_mk I_14 L_15, 0, 0)
                    exact ar_iret rfl rfl h
                · have c_8 := Classical.not_not.mp c_8
                  have h := hA c_8
                  clear hA hB
                  refine ar_aload_n (j := 0) (q := 98) rfl rfl rfl rfl ?_
                  refine ar_iconst (v := 0) (q := 99) rfl rfl rfl ?_
                  refine ar_invv (as := [.int 0]) (rest := []) (b2 := (0, 0)) (b3 := (0, 0)) (q := 102) rfl rfl rfl rfl mk_113 rfl rfl rfl rfl rfl ?_
                  refine am_meth_mono d _ _ _ _ _ (fun v9 m9 h9 => ?_) h
                  obtain ⟨z_9, I_10, L_11, rfl, rfl, h⟩ := h9
                  show am_Run am_X0 (am_meth d) 239 R 102 [some (.ref 113), some (.int w)] [.int z_9] (am_mk I_10 L_11, 0, 0)
                  exact ar_iret rfl rfl h
              · have c_7 := Classical.not_not.mp c_7
                have h := hA c_7
                clear hA hB
                refine ar_aload_n (j := 0) (q := 87) rfl rfl rfl rfl ?_
                refine ar_getf (v := .int (I 113 25)) (q := 90) rfl rfl mk_113 rfl rfl ?_
                exact ar_iret rfl rfl h
            · have c_6 := Classical.not_not.mp c_6
              have h := hA c_6
              clear hA hB
              refine ar_aload_n (j := 0) (q := 76) rfl rfl rfl rfl ?_
              refine ar_getf (v := .int (I 113 14)) (q := 79) rfl rfl mk_113 rfl rfl ?_
              exact ar_iret rfl rfl h
          · have c_5 := Classical.not_not.mp c_5
            have h := hA c_5
            clear hA hB
            refine ar_aload_n (j := 0) (q := 66) rfl rfl rfl rfl ?_
            refine ar_getf (v := .int (I 113 10)) (q := 69) rfl rfl mk_113 rfl rfl ?_
            exact ar_iret rfl rfl h
        · have c_4 := Classical.not_not.mp c_4
          have h := hA c_4
          clear hA hB
          refine ar_aload_n (j := 0) (q := 56) rfl rfl rfl rfl ?_
          refine ar_getf (v := .int (I 113 4)) (q := 59) rfl rfl mk_113 rfl rfl ?_
          exact ar_iret rfl rfl h
      · have c_3 := Classical.not_not.mp c_3
        have h := hA c_3
        clear hA hB
        refine ar_aload_n (j := 0) (q := 46) rfl rfl rfl rfl ?_
        refine ar_getf (v := .int (I 113 0)) (q := 49) rfl rfl mk_113 rfl rfl ?_
        exact ar_iret rfl rfl h
    · have h := hB c_2
      clear hA hB
      refine ar_iload_n (j := 1) (q := 28) rfl rfl rfl rfl ?_
      refine ar_bipush (v := 6) (q := 30) rfl rfl rfl ?_
      obtain ⟨hA, hB⟩ := h
      refine ar_br am_d_gt (t := 41) (q := 33) rfl rfl rfl (fun c_19 => ?_) (fun c_19 => ?_)
      · have h := hB c_19
        clear hA hB
        refine ar_iload_n (j := 1) (q := 42) rfl rfl rfl rfl ?_
        obtain ⟨hA, hB⟩ := h
        refine ar_b0 am_c_ne (t := 50) (q := 45) rfl rfl rfl (fun c_23 => ?_) (fun c_23 => ?_)
        · have h := hB c_23
          clear hA hB
          refine ar_iload_n (j := 1) (q := 51) rfl rfl rfl rfl ?_
          refine ar_iconst (v := 1) (q := 52) rfl rfl rfl ?_
          obtain ⟨hA, hB⟩ := h
          refine ar_br am_c_ne (t := 60) (q := 55) rfl rfl rfl (fun c_24 => ?_) (fun c_24 => ?_)
          · have h := hB c_24
            clear hA hB
            refine ar_iload_n (j := 1) (q := 61) rfl rfl rfl rfl ?_
            refine ar_iconst (v := 2) (q := 62) rfl rfl rfl ?_
            obtain ⟨hA, hB⟩ := h
            refine ar_br am_c_ne (t := 70) (q := 65) rfl rfl rfl (fun c_25 => ?_) (fun c_25 => ?_)
            · have h := hB c_25
              clear hA hB
              refine ar_iload_n (j := 1) (q := 71) rfl rfl rfl rfl ?_
              refine ar_iconst (v := 3) (q := 72) rfl rfl rfl ?_
              obtain ⟨hA, hB⟩ := h
              refine ar_br am_c_ne (t := 80) (q := 75) rfl rfl rfl (fun c_26 => ?_) (fun c_26 => ?_)
              · have h := hB c_26
                clear hA hB
                refine ar_iload_n (j := 1) (q := 81) rfl rfl rfl rfl ?_
                refine ar_bipush (v := 7) (q := 83) rfl rfl rfl ?_
                obtain ⟨hA, hB⟩ := h
                refine ar_br am_c_ne (t := 91) (q := 86) rfl rfl rfl (fun c_27 => ?_) (fun c_27 => ?_)
                · have h := hB c_27
                  clear hA hB
                  refine ar_iload_n (j := 1) (q := 92) rfl rfl rfl rfl ?_
                  refine ar_bipush (v := 8) (q := 94) rfl rfl rfl ?_
                  obtain ⟨hA, hB⟩ := h
                  refine ar_br am_c_ne (t := 103) (q := 97) rfl rfl rfl (fun c_28 => ?_) (fun c_28 => ?_)
                  · have h := hB c_28
                    clear hA hB
                    refine ar_iload_n (j := 1) (q := 104) rfl rfl rfl rfl ?_
                    refine ar_bipush (v := 9) (q := 106) rfl rfl rfl ?_
                    obtain ⟨hA, hB⟩ := h
                    refine ar_br am_c_ne (t := 115) (q := 109) rfl rfl rfl (fun c_32 => ?_) (fun c_32 => ?_)
                    · have h := hB c_32
                      clear hA hB
                      refine ar_iload_n (j := 1) (q := 116) rfl rfl rfl rfl ?_
                      refine ar_bipush (v := 10) (q := 118) rfl rfl rfl ?_
                      obtain ⟨hA, hB⟩ := h
                      refine ar_br am_c_ne (t := 126) (q := 121) rfl rfl rfl (fun c_36 => ?_) (fun c_36 => ?_)
                      · have h := hB c_36
                        clear hA hB
                        refine ar_iload_n (j := 1) (q := 127) rfl rfl rfl rfl ?_
                        refine ar_bipush (v := 17) (q := 129) rfl rfl rfl ?_
                        obtain ⟨hA, hB⟩ := h
                        refine ar_br am_c_ne (t := 137) (q := 132) rfl rfl rfl (fun c_37 => ?_) (fun c_37 => ?_)
                        · have h := hB c_37
                          clear hA hB
                          refine ar_iload_n (j := 1) (q := 138) rfl rfl rfl rfl ?_
                          refine ar_bipush (v := 18) (q := 140) rfl rfl rfl ?_
                          obtain ⟨hA, hB⟩ := h
                          refine ar_br am_c_ne (t := 150) (q := 143) rfl rfl rfl (fun c_38 => ?_) (fun c_38 => ?_)
                          · have h := hB c_38
                            clear hA hB
                            refine ar_bipush (v := (-9 : Int32)) (q := 152) rfl rfl rfl ?_
                            exact ar_iret rfl rfl h
                          · have c_38 := Classical.not_not.mp c_38
                            have h := hA c_38
                            clear hA hB
                            refine ar_aload_n (j := 0) (q := 144) rfl rfl rfl rfl ?_
                            refine ar_getf (v := .int (I 113 41)) (q := 147) rfl rfl mk_113 rfl rfl ?_
                            refine ar_goto (t := 152) rfl rfl ?_
                            exact ar_iret rfl rfl h
                        · have c_37 := Classical.not_not.mp c_37
                          have h := hA c_37
                          clear hA hB
                          refine ar_aload_n (j := 0) (q := 133) rfl rfl rfl rfl ?_
                          refine ar_getf (v := .int (I 113 39)) (q := 136) rfl rfl mk_113 rfl rfl ?_
                          exact ar_iret rfl rfl h
                      · have c_36 := Classical.not_not.mp c_36
                        have h := hA c_36
                        clear hA hB
                        refine ar_aload_n (j := 0) (q := 122) rfl rfl rfl rfl ?_
                        refine ar_getf (v := .int (I 113 24)) (q := 125) rfl rfl mk_113 rfl rfl ?_
                        exact ar_iret rfl rfl h
                    · have c_32 := Classical.not_not.mp c_32
                      have h := hA c_32
                      clear hA hB
                      refine ar_aload_n (j := 0) (q := 110) rfl rfl rfl rfl ?_
                      refine ar_iconst (v := 1) (q := 111) rfl rfl rfl ?_
                      refine ar_invv (as := [.int 1]) (rest := []) (b2 := (0, 0)) (b3 := (0, 0)) (q := 114) rfl rfl rfl rfl mk_113 rfl rfl rfl rfl rfl ?_
                      refine am_meth_mono d _ _ _ _ _ (fun v9 m9 h9 => ?_) h
                      obtain ⟨z_33, I_34, L_35, rfl, rfl, h⟩ := h9
                      show am_Run am_X0 (am_meth d) 239 R 114 [some (.ref 113), some (.int w)] [.int z_33] (am_mk I_34 L_35, 0, 0)
                      exact ar_iret rfl rfl h
                  · have c_28 := Classical.not_not.mp c_28
                    have h := hA c_28
                    clear hA hB
                    refine ar_aload_n (j := 0) (q := 98) rfl rfl rfl rfl ?_
                    refine ar_iconst (v := 0) (q := 99) rfl rfl rfl ?_
                    refine ar_invv (as := [.int 0]) (rest := []) (b2 := (0, 0)) (b3 := (0, 0)) (q := 102) rfl rfl rfl rfl mk_113 rfl rfl rfl rfl rfl ?_
                    refine am_meth_mono d _ _ _ _ _ (fun v9 m9 h9 => ?_) h
                    obtain ⟨z_29, I_30, L_31, rfl, rfl, h⟩ := h9
                    show am_Run am_X0 (am_meth d) 239 R 102 [some (.ref 113), some (.int w)] [.int z_29] (am_mk I_30 L_31, 0, 0)
                    exact ar_iret rfl rfl h
                · have c_27 := Classical.not_not.mp c_27
                  have h := hA c_27
                  clear hA hB
                  refine ar_aload_n (j := 0) (q := 87) rfl rfl rfl rfl ?_
                  refine ar_getf (v := .int (I 113 25)) (q := 90) rfl rfl mk_113 rfl rfl ?_
                  exact ar_iret rfl rfl h
              · have c_26 := Classical.not_not.mp c_26
                have h := hA c_26
                clear hA hB
                refine ar_aload_n (j := 0) (q := 76) rfl rfl rfl rfl ?_
                refine ar_getf (v := .int (I 113 14)) (q := 79) rfl rfl mk_113 rfl rfl ?_
                exact ar_iret rfl rfl h
            · have c_25 := Classical.not_not.mp c_25
              have h := hA c_25
              clear hA hB
              refine ar_aload_n (j := 0) (q := 66) rfl rfl rfl rfl ?_
              refine ar_getf (v := .int (I 113 10)) (q := 69) rfl rfl mk_113 rfl rfl ?_
              exact ar_iret rfl rfl h
          · have c_24 := Classical.not_not.mp c_24
            have h := hA c_24
            clear hA hB
            refine ar_aload_n (j := 0) (q := 56) rfl rfl rfl rfl ?_
            refine ar_getf (v := .int (I 113 4)) (q := 59) rfl rfl mk_113 rfl rfl ?_
            exact ar_iret rfl rfl h
        · have c_23 := Classical.not_not.mp c_23
          have h := hA c_23
          clear hA hB
          refine ar_aload_n (j := 0) (q := 46) rfl rfl rfl rfl ?_
          refine ar_getf (v := .int (I 113 0)) (q := 49) rfl rfl mk_113 rfl rfl ?_
          exact ar_iret rfl rfl h
      · have c_19 := Classical.not_not.mp c_19
        have h := hA c_19
        clear hA hB
        refine ar_aload_n (j := 0) (q := 34) rfl rfl rfl rfl ?_
        refine ar_iload_n (j := 1) (q := 35) rfl rfl rfl rfl ?_
        refine ar_iconst (v := 4) (q := 36) rfl rfl rfl ?_
        refine ar_ib (i := .isub) (z := w - 4) (q := 37) rfl rfl rfl rfl rfl ?_
        refine ar_invv (as := [.int (w - 4)]) (rest := []) (b2 := (0, 0)) (b3 := (0, 0)) (q := 40) rfl rfl rfl rfl mk_113 rfl rfl rfl rfl rfl ?_
        refine am_meth_mono d _ _ _ _ _ (fun v9 m9 h9 => ?_) h
        obtain ⟨z_20, I_21, L_22, rfl, rfl, h⟩ := h9
        show am_Run am_X0 (am_meth d) 239 R 40 [some (.ref 113), some (.int w)] [.int z_20] (am_mk I_21 L_22, 0, 0)
        exact ar_iret rfl rfl h
  · have h := hB c_1
    clear hA hB
    refine ar_iload_n (j := 1) (q := 7) rfl rfl rfl rfl ?_
    refine ar_bipush (v := 16) (q := 9) rfl rfl rfl ?_
    obtain ⟨hA, hB⟩ := h
    refine ar_br am_d_gt (t := 22) (q := 12) rfl rfl rfl (fun c_39 => ?_) (fun c_39 => ?_)
    · have h := hB c_39
      clear hA hB
      refine ar_iload_n (j := 1) (q := 23) rfl rfl rfl rfl ?_
      refine ar_iconst (v := 4) (q := 24) rfl rfl rfl ?_
      obtain ⟨hA, hB⟩ := h
      refine ar_br am_c_lt (t := 41) (q := 27) rfl rfl rfl (fun c_43 => ?_) (fun c_43 => ?_)
      · have h := hA c_43
        clear hA hB
        refine ar_iload_n (j := 1) (q := 42) rfl rfl rfl rfl ?_
        obtain ⟨hA, hB⟩ := h
        refine ar_b0 am_c_ne (t := 50) (q := 45) rfl rfl rfl (fun c_44 => ?_) (fun c_44 => ?_)
        · have h := hB c_44
          clear hA hB
          refine ar_iload_n (j := 1) (q := 51) rfl rfl rfl rfl ?_
          refine ar_iconst (v := 1) (q := 52) rfl rfl rfl ?_
          obtain ⟨hA, hB⟩ := h
          refine ar_br am_c_ne (t := 60) (q := 55) rfl rfl rfl (fun c_45 => ?_) (fun c_45 => ?_)
          · have h := hB c_45
            clear hA hB
            refine ar_iload_n (j := 1) (q := 61) rfl rfl rfl rfl ?_
            refine ar_iconst (v := 2) (q := 62) rfl rfl rfl ?_
            obtain ⟨hA, hB⟩ := h
            refine ar_br am_c_ne (t := 70) (q := 65) rfl rfl rfl (fun c_46 => ?_) (fun c_46 => ?_)
            · have h := hB c_46
              clear hA hB
              refine ar_iload_n (j := 1) (q := 71) rfl rfl rfl rfl ?_
              refine ar_iconst (v := 3) (q := 72) rfl rfl rfl ?_
              obtain ⟨hA, hB⟩ := h
              refine ar_br am_c_ne (t := 80) (q := 75) rfl rfl rfl (fun c_47 => ?_) (fun c_47 => ?_)
              · have h := hB c_47
                clear hA hB
                refine ar_iload_n (j := 1) (q := 81) rfl rfl rfl rfl ?_
                refine ar_bipush (v := 7) (q := 83) rfl rfl rfl ?_
                obtain ⟨hA, hB⟩ := h
                refine ar_br am_c_ne (t := 91) (q := 86) rfl rfl rfl (fun c_48 => ?_) (fun c_48 => ?_)
                · have h := hB c_48
                  clear hA hB
                  refine ar_iload_n (j := 1) (q := 92) rfl rfl rfl rfl ?_
                  refine ar_bipush (v := 8) (q := 94) rfl rfl rfl ?_
                  obtain ⟨hA, hB⟩ := h
                  refine ar_br am_c_ne (t := 103) (q := 97) rfl rfl rfl (fun c_49 => ?_) (fun c_49 => ?_)
                  · have h := hB c_49
                    clear hA hB
                    refine ar_iload_n (j := 1) (q := 104) rfl rfl rfl rfl ?_
                    refine ar_bipush (v := 9) (q := 106) rfl rfl rfl ?_
                    obtain ⟨hA, hB⟩ := h
                    refine ar_br am_c_ne (t := 115) (q := 109) rfl rfl rfl (fun c_53 => ?_) (fun c_53 => ?_)
                    · have h := hB c_53
                      clear hA hB
                      refine ar_iload_n (j := 1) (q := 116) rfl rfl rfl rfl ?_
                      refine ar_bipush (v := 10) (q := 118) rfl rfl rfl ?_
                      obtain ⟨hA, hB⟩ := h
                      refine ar_br am_c_ne (t := 126) (q := 121) rfl rfl rfl (fun c_57 => ?_) (fun c_57 => ?_)
                      · have h := hB c_57
                        clear hA hB
                        refine ar_iload_n (j := 1) (q := 127) rfl rfl rfl rfl ?_
                        refine ar_bipush (v := 17) (q := 129) rfl rfl rfl ?_
                        obtain ⟨hA, hB⟩ := h
                        refine ar_br am_c_ne (t := 137) (q := 132) rfl rfl rfl (fun c_58 => ?_) (fun c_58 => ?_)
                        · have h := hB c_58
                          clear hA hB
                          refine ar_iload_n (j := 1) (q := 138) rfl rfl rfl rfl ?_
                          refine ar_bipush (v := 18) (q := 140) rfl rfl rfl ?_
                          obtain ⟨hA, hB⟩ := h
                          refine ar_br am_c_ne (t := 150) (q := 143) rfl rfl rfl (fun c_59 => ?_) (fun c_59 => ?_)
                          · have h := hB c_59
                            clear hA hB
                            refine ar_bipush (v := (-9 : Int32)) (q := 152) rfl rfl rfl ?_
                            exact ar_iret rfl rfl h
                          · have c_59 := Classical.not_not.mp c_59
                            have h := hA c_59
                            clear hA hB
                            refine ar_aload_n (j := 0) (q := 144) rfl rfl rfl rfl ?_
                            refine ar_getf (v := .int (I 113 41)) (q := 147) rfl rfl mk_113 rfl rfl ?_
                            refine ar_goto (t := 152) rfl rfl ?_
                            exact ar_iret rfl rfl h
                        · have c_58 := Classical.not_not.mp c_58
                          have h := hA c_58
                          clear hA hB
                          refine ar_aload_n (j := 0) (q := 133) rfl rfl rfl rfl ?_
                          refine ar_getf (v := .int (I 113 39)) (q := 136) rfl rfl mk_113 rfl rfl ?_
                          exact ar_iret rfl rfl h
                      · have c_57 := Classical.not_not.mp c_57
                        have h := hA c_57
                        clear hA hB
                        refine ar_aload_n (j := 0) (q := 122) rfl rfl rfl rfl ?_
                        refine ar_getf (v := .int (I 113 24)) (q := 125) rfl rfl mk_113 rfl rfl ?_
                        exact ar_iret rfl rfl h
                    · have c_53 := Classical.not_not.mp c_53
                      have h := hA c_53
                      clear hA hB
                      refine ar_aload_n (j := 0) (q := 110) rfl rfl rfl rfl ?_
                      refine ar_iconst (v := 1) (q := 111) rfl rfl rfl ?_
                      refine ar_invv (as := [.int 1]) (rest := []) (b2 := (0, 0)) (b3 := (0, 0)) (q := 114) rfl rfl rfl rfl mk_113 rfl rfl rfl rfl rfl ?_
                      refine am_meth_mono d _ _ _ _ _ (fun v9 m9 h9 => ?_) h
                      obtain ⟨z_54, I_55, L_56, rfl, rfl, h⟩ := h9
                      show am_Run am_X0 (am_meth d) 239 R 114 [some (.ref 113), some (.int w)] [.int z_54] (am_mk I_55 L_56, 0, 0)
                      exact ar_iret rfl rfl h
                  · have c_49 := Classical.not_not.mp c_49
                    have h := hA c_49
                    clear hA hB
                    refine ar_aload_n (j := 0) (q := 98) rfl rfl rfl rfl ?_
                    refine ar_iconst (v := 0) (q := 99) rfl rfl rfl ?_
                    refine ar_invv (as := [.int 0]) (rest := []) (b2 := (0, 0)) (b3 := (0, 0)) (q := 102) rfl rfl rfl rfl mk_113 rfl rfl rfl rfl rfl ?_
                    refine am_meth_mono d _ _ _ _ _ (fun v9 m9 h9 => ?_) h
                    obtain ⟨z_50, I_51, L_52, rfl, rfl, h⟩ := h9
                    show am_Run am_X0 (am_meth d) 239 R 102 [some (.ref 113), some (.int w)] [.int z_50] (am_mk I_51 L_52, 0, 0)
                    exact ar_iret rfl rfl h
                · have c_48 := Classical.not_not.mp c_48
                  have h := hA c_48
                  clear hA hB
                  refine ar_aload_n (j := 0) (q := 87) rfl rfl rfl rfl ?_
                  refine ar_getf (v := .int (I 113 25)) (q := 90) rfl rfl mk_113 rfl rfl ?_
                  exact ar_iret rfl rfl h
              · have c_47 := Classical.not_not.mp c_47
                have h := hA c_47
                clear hA hB
                refine ar_aload_n (j := 0) (q := 76) rfl rfl rfl rfl ?_
                refine ar_getf (v := .int (I 113 14)) (q := 79) rfl rfl mk_113 rfl rfl ?_
                exact ar_iret rfl rfl h
            · have c_46 := Classical.not_not.mp c_46
              have h := hA c_46
              clear hA hB
              refine ar_aload_n (j := 0) (q := 66) rfl rfl rfl rfl ?_
              refine ar_getf (v := .int (I 113 10)) (q := 69) rfl rfl mk_113 rfl rfl ?_
              exact ar_iret rfl rfl h
          · have c_45 := Classical.not_not.mp c_45
            have h := hA c_45
            clear hA hB
            refine ar_aload_n (j := 0) (q := 56) rfl rfl rfl rfl ?_
            refine ar_getf (v := .int (I 113 4)) (q := 59) rfl rfl mk_113 rfl rfl ?_
            exact ar_iret rfl rfl h
        · have c_44 := Classical.not_not.mp c_44
          have h := hA c_44
          clear hA hB
          refine ar_aload_n (j := 0) (q := 46) rfl rfl rfl rfl ?_
          refine ar_getf (v := .int (I 113 0)) (q := 49) rfl rfl mk_113 rfl rfl ?_
          exact ar_iret rfl rfl h
      · have h := hB c_43
        clear hA hB
        refine ar_iload_n (j := 1) (q := 28) rfl rfl rfl rfl ?_
        refine ar_bipush (v := 6) (q := 30) rfl rfl rfl ?_
        obtain ⟨hA, hB⟩ := h
        refine ar_br am_d_gt (t := 41) (q := 33) rfl rfl rfl (fun c_60 => ?_) (fun c_60 => ?_)
        · have h := hB c_60
          clear hA hB
          refine ar_iload_n (j := 1) (q := 42) rfl rfl rfl rfl ?_
          obtain ⟨hA, hB⟩ := h
          refine ar_b0 am_c_ne (t := 50) (q := 45) rfl rfl rfl (fun c_64 => ?_) (fun c_64 => ?_)
          · have h := hB c_64
            clear hA hB
            refine ar_iload_n (j := 1) (q := 51) rfl rfl rfl rfl ?_
            refine ar_iconst (v := 1) (q := 52) rfl rfl rfl ?_
            obtain ⟨hA, hB⟩ := h
            refine ar_br am_c_ne (t := 60) (q := 55) rfl rfl rfl (fun c_65 => ?_) (fun c_65 => ?_)
            · have h := hB c_65
              clear hA hB
              refine ar_iload_n (j := 1) (q := 61) rfl rfl rfl rfl ?_
              refine ar_iconst (v := 2) (q := 62) rfl rfl rfl ?_
              obtain ⟨hA, hB⟩ := h
              refine ar_br am_c_ne (t := 70) (q := 65) rfl rfl rfl (fun c_66 => ?_) (fun c_66 => ?_)
              · have h := hB c_66
                clear hA hB
                refine ar_iload_n (j := 1) (q := 71) rfl rfl rfl rfl ?_
                refine ar_iconst (v := 3) (q := 72) rfl rfl rfl ?_
                obtain ⟨hA, hB⟩ := h
                refine ar_br am_c_ne (t := 80) (q := 75) rfl rfl rfl (fun c_67 => ?_) (fun c_67 => ?_)
                · have h := hB c_67
                  clear hA hB
                  refine ar_iload_n (j := 1) (q := 81) rfl rfl rfl rfl ?_
                  refine ar_bipush (v := 7) (q := 83) rfl rfl rfl ?_
                  obtain ⟨hA, hB⟩ := h
                  refine ar_br am_c_ne (t := 91) (q := 86) rfl rfl rfl (fun c_68 => ?_) (fun c_68 => ?_)
                  · have h := hB c_68
                    clear hA hB
                    refine ar_iload_n (j := 1) (q := 92) rfl rfl rfl rfl ?_
                    refine ar_bipush (v := 8) (q := 94) rfl rfl rfl ?_
                    obtain ⟨hA, hB⟩ := h
                    refine ar_br am_c_ne (t := 103) (q := 97) rfl rfl rfl (fun c_69 => ?_) (fun c_69 => ?_)
                    · have h := hB c_69
                      clear hA hB
                      refine ar_iload_n (j := 1) (q := 104) rfl rfl rfl rfl ?_
                      refine ar_bipush (v := 9) (q := 106) rfl rfl rfl ?_
                      obtain ⟨hA, hB⟩ := h
                      refine ar_br am_c_ne (t := 115) (q := 109) rfl rfl rfl (fun c_73 => ?_) (fun c_73 => ?_)
                      · have h := hB c_73
                        clear hA hB
                        refine ar_iload_n (j := 1) (q := 116) rfl rfl rfl rfl ?_
                        refine ar_bipush (v := 10) (q := 118) rfl rfl rfl ?_
                        obtain ⟨hA, hB⟩ := h
                        refine ar_br am_c_ne (t := 126) (q := 121) rfl rfl rfl (fun c_77 => ?_) (fun c_77 => ?_)
                        · have h := hB c_77
                          clear hA hB
                          refine ar_iload_n (j := 1) (q := 127) rfl rfl rfl rfl ?_
                          refine ar_bipush (v := 17) (q := 129) rfl rfl rfl ?_
                          obtain ⟨hA, hB⟩ := h
                          refine ar_br am_c_ne (t := 137) (q := 132) rfl rfl rfl (fun c_78 => ?_) (fun c_78 => ?_)
                          · have h := hB c_78
                            clear hA hB
                            refine ar_iload_n (j := 1) (q := 138) rfl rfl rfl rfl ?_
                            refine ar_bipush (v := 18) (q := 140) rfl rfl rfl ?_
                            obtain ⟨hA, hB⟩ := h
                            refine ar_br am_c_ne (t := 150) (q := 143) rfl rfl rfl (fun c_79 => ?_) (fun c_79 => ?_)
                            · have h := hB c_79
                              clear hA hB
                              refine ar_bipush (v := (-9 : Int32)) (q := 152) rfl rfl rfl ?_
                              exact ar_iret rfl rfl h
                            · have c_79 := Classical.not_not.mp c_79
                              have h := hA c_79
                              clear hA hB
                              refine ar_aload_n (j := 0) (q := 144) rfl rfl rfl rfl ?_
                              refine ar_getf (v := .int (I 113 41)) (q := 147) rfl rfl mk_113 rfl rfl ?_
                              refine ar_goto (t := 152) rfl rfl ?_
                              exact ar_iret rfl rfl h
                          · have c_78 := Classical.not_not.mp c_78
                            have h := hA c_78
                            clear hA hB
                            refine ar_aload_n (j := 0) (q := 133) rfl rfl rfl rfl ?_
                            refine ar_getf (v := .int (I 113 39)) (q := 136) rfl rfl mk_113 rfl rfl ?_
                            exact ar_iret rfl rfl h
                        · have c_77 := Classical.not_not.mp c_77
                          have h := hA c_77
                          clear hA hB
                          refine ar_aload_n (j := 0) (q := 122) rfl rfl rfl rfl ?_
                          refine ar_getf (v := .int (I 113 24)) (q := 125) rfl rfl mk_113 rfl rfl ?_
                          exact ar_iret rfl rfl h
                      · have c_73 := Classical.not_not.mp c_73
                        have h := hA c_73
                        clear hA hB
                        refine ar_aload_n (j := 0) (q := 110) rfl rfl rfl rfl ?_
                        refine ar_iconst (v := 1) (q := 111) rfl rfl rfl ?_
                        refine ar_invv (as := [.int 1]) (rest := []) (b2 := (0, 0)) (b3 := (0, 0)) (q := 114) rfl rfl rfl rfl mk_113 rfl rfl rfl rfl rfl ?_
                        refine am_meth_mono d _ _ _ _ _ (fun v9 m9 h9 => ?_) h
                        obtain ⟨z_74, I_75, L_76, rfl, rfl, h⟩ := h9
                        show am_Run am_X0 (am_meth d) 239 R 114 [some (.ref 113), some (.int w)] [.int z_74] (am_mk I_75 L_76, 0, 0)
                        exact ar_iret rfl rfl h
                    · have c_69 := Classical.not_not.mp c_69
                      have h := hA c_69
                      clear hA hB
                      refine ar_aload_n (j := 0) (q := 98) rfl rfl rfl rfl ?_
                      refine ar_iconst (v := 0) (q := 99) rfl rfl rfl ?_
                      refine ar_invv (as := [.int 0]) (rest := []) (b2 := (0, 0)) (b3 := (0, 0)) (q := 102) rfl rfl rfl rfl mk_113 rfl rfl rfl rfl rfl ?_
                      refine am_meth_mono d _ _ _ _ _ (fun v9 m9 h9 => ?_) h
                      obtain ⟨z_70, I_71, L_72, rfl, rfl, h⟩ := h9
                      show am_Run am_X0 (am_meth d) 239 R 102 [some (.ref 113), some (.int w)] [.int z_70] (am_mk I_71 L_72, 0, 0)
                      exact ar_iret rfl rfl h
                  · have c_68 := Classical.not_not.mp c_68
                    have h := hA c_68
                    clear hA hB
                    refine ar_aload_n (j := 0) (q := 87) rfl rfl rfl rfl ?_
                    refine ar_getf (v := .int (I 113 25)) (q := 90) rfl rfl mk_113 rfl rfl ?_
                    exact ar_iret rfl rfl h
                · have c_67 := Classical.not_not.mp c_67
                  have h := hA c_67
                  clear hA hB
                  refine ar_aload_n (j := 0) (q := 76) rfl rfl rfl rfl ?_
                  refine ar_getf (v := .int (I 113 14)) (q := 79) rfl rfl mk_113 rfl rfl ?_
                  exact ar_iret rfl rfl h
              · have c_66 := Classical.not_not.mp c_66
                have h := hA c_66
                clear hA hB
                refine ar_aload_n (j := 0) (q := 66) rfl rfl rfl rfl ?_
                refine ar_getf (v := .int (I 113 10)) (q := 69) rfl rfl mk_113 rfl rfl ?_
                exact ar_iret rfl rfl h
            · have c_65 := Classical.not_not.mp c_65
              have h := hA c_65
              clear hA hB
              refine ar_aload_n (j := 0) (q := 56) rfl rfl rfl rfl ?_
              refine ar_getf (v := .int (I 113 4)) (q := 59) rfl rfl mk_113 rfl rfl ?_
              exact ar_iret rfl rfl h
          · have c_64 := Classical.not_not.mp c_64
            have h := hA c_64
            clear hA hB
            refine ar_aload_n (j := 0) (q := 46) rfl rfl rfl rfl ?_
            refine ar_getf (v := .int (I 113 0)) (q := 49) rfl rfl mk_113 rfl rfl ?_
            exact ar_iret rfl rfl h
        · have c_60 := Classical.not_not.mp c_60
          have h := hA c_60
          clear hA hB
          refine ar_aload_n (j := 0) (q := 34) rfl rfl rfl rfl ?_
          refine ar_iload_n (j := 1) (q := 35) rfl rfl rfl rfl ?_
          refine ar_iconst (v := 4) (q := 36) rfl rfl rfl ?_
          refine ar_ib (i := .isub) (z := w - 4) (q := 37) rfl rfl rfl rfl rfl ?_
          refine ar_invv (as := [.int (w - 4)]) (rest := []) (b2 := (0, 0)) (b3 := (0, 0)) (q := 40) rfl rfl rfl rfl mk_113 rfl rfl rfl rfl rfl ?_
          refine am_meth_mono d _ _ _ _ _ (fun v9 m9 h9 => ?_) h
          obtain ⟨z_61, I_62, L_63, rfl, rfl, h⟩ := h9
          show am_Run am_X0 (am_meth d) 239 R 40 [some (.ref 113), some (.int w)] [.int z_61] (am_mk I_62 L_63, 0, 0)
          exact ar_iret rfl rfl h
    · have c_39 := Classical.not_not.mp c_39
      have h := hA c_39
      clear hA hB
      refine ar_aload_n (j := 0) (q := 13) rfl rfl rfl rfl ?_
      refine ar_getf (v := .ref 156) (q := 16) rfl rfl mk_113 rfl rfl ?_
      refine ar_iload_n (j := 1) (q := 17) rfl rfl rfl rfl ?_
      refine ar_bipush (v := 10) (q := 19) rfl rfl rfl ?_
      refine ar_ib (i := .isub) (z := w - 10) (q := 20) rfl rfl rfl rfl rfl ?_
      obtain ⟨j_40, hx_41, hi_42, h⟩ := h
      refine ar_iald (v := I 156 j_40) (q := 21) rfl mk_156 (am_inE hi_42 hx_41 (by decide)) (am_clE hi_42 hx_41 (by decide)) rfl ?_
      exact ar_iret rfl rfl h
