theorem r_Terms_unit_0 {d : Nat} {R : am_R} {I : Nat → Nat → Int32} {L : Nat → Nat → Int64} {x : Int32} (h : (((x - 100000) < 0 → (R (some (.long ((x : Int32).toInt64))) (am_mk I L, 0, 0))) ∧ (¬ (x - 100000) < 0 → ((((x - 100000) < 10 → (∃ j_3 : Nat, j_3 < 10 ∧ x - 100000 = nI j_3 ∧ (R (some (.long ((I 100 j_3 : Int32).toInt64))) (am_mk I L, 0, 0)))) ∧ (¬ (x - 100000) < 10 → (R (some (.long ((x : Int32).toInt64))) (am_mk I L, 0, 0)))))))) : am_Run am_X0 (am_meth d) 129 R 0 [some (.int x), some (.ref 100), none] [] (am_mk I L, 0, 0) := by
  refine ar_iload_n (j := 0) (q := 1) rfl rfl rfl rfl ?_
  refine ar_ldc (v := 100000) (q := 3) rfl rfl rfl ?_
  refine ar_ib (i := .isub) (z := x - 100000) (q := 4) rfl rfl rfl rfl rfl ?_
  refine ar_istore_n (j := 2) (ls' := [some (.int x), some (.ref 100), some (.int (x - 100000))]) (q := 5) rfl rfl rfl rfl rfl ?_
  refine ar_iload_n (j := 2) (q := 6) rfl rfl rfl rfl ?_
  obtain ⟨hA, hB⟩ := h
  refine ar_b0 am_c_lt (t := 22) (q := 9) rfl rfl rfl (fun c_1 => ?_) (fun c_1 => ?_)
  · have h := hA c_1
    clear hA hB
    refine ar_iload_n (j := 0) (q := 23) rfl rfl rfl rfl ?_
    refine ar_st (i := .i2l) (n := 1) (st' := [.long ((x : Int32).toInt64)]) (q := 24) rfl rfl rfl rfl ?_
    exact ar_lret rfl rfl h
  · have h := hB c_1
    clear hA hB
    refine ar_iload_n (j := 2) (q := 10) rfl rfl rfl rfl ?_
    refine ar_aload_n (j := 1) (q := 11) rfl rfl rfl rfl ?_
    refine ar_st (i := .arraylength) (n := 1) (st' := [.int 10, .int (x - 100000)]) (q := 12) rfl rfl rfl rfl ?_
    obtain ⟨hA, hB⟩ := h
    refine ar_br am_d_ge (t := 22) (q := 15) rfl rfl rfl (fun c_2 => ?_) (fun c_2 => ?_)
    · have h := hB c_2
      clear hA hB
      refine ar_iload_n (j := 0) (q := 23) rfl rfl rfl rfl ?_
      refine ar_st (i := .i2l) (n := 1) (st' := [.long ((x : Int32).toInt64)]) (q := 24) rfl rfl rfl rfl ?_
      exact ar_lret rfl rfl h
    · have c_2 := Classical.not_not.mp c_2
      have h := hA c_2
      clear hA hB
      refine ar_aload_n (j := 1) (q := 16) rfl rfl rfl rfl ?_
      refine ar_iload_n (j := 2) (q := 17) rfl rfl rfl rfl ?_
      obtain ⟨j_3, hx_4, hi_5, h⟩ := h
      refine ar_iald (v := I 100 j_3) (q := 18) rfl mk_100 (am_inE hi_5 hx_4 (by decide)) (am_clE (n := 10) hi_5 hx_4 (by decide)) rfl ?_
      refine ar_st (i := .i2l) (n := 1) (st' := [.long ((I 100 j_3 : Int32).toInt64)]) (q := 19) rfl rfl rfl rfl ?_
      refine ar_goto (t := 24) rfl rfl ?_
      exact ar_lret rfl rfl h
theorem r_Terms_valueOf_0 {d : Nat} {R : am_R} {I : Nat → Nat → Int32} {L : Nat → Nat → Int64} {t : Nat} (h : am_Run am_X0 (am_meth d) 128 R 5 [some (.ref 85), some (.int (nI t)), some (.ref 100), some (.int 0), some (.int 0), none] [] (am_mk I L, 0, 0)) : am_Run am_X0 (am_meth d) 128 R 0 [some (.ref 85), some (.int (nI t)), some (.ref 100), none, none, none] [] (am_mk I L, 0, 0) := by
  refine ar_iconst (v := 0) (q := 1) rfl rfl rfl ?_
  refine ar_istore_n (j := 3) (ls' := [some (.ref 85), some (.int (nI t)), some (.ref 100), some (.int 0), none, none]) (q := 2) rfl rfl rfl rfl rfl ?_
  refine ar_iconst (v := 0) (q := 3) rfl rfl rfl ?_
  refine ar_istore (ls' := [some (.ref 85), some (.int (nI t)), some (.ref 100), some (.int 0), some (.int 0), none]) (q := 5) rfl rfl rfl rfl ?_
  exact am_Run.weak (ls' := _) (by exact ⟨rfl, ⟨rfl, ⟨rfl, ⟨rfl, ⟨rfl, trivial⟩⟩⟩⟩⟩) h
theorem r_Terms_valueOf_5 {d : Nat} {R : am_R} {I : Nat → Nat → Int32} {L : Nat → Nat → Int64} {t : Nat} {p : Nat} {i : Nat} (h : t < 30 ∧ ((((nI i) < (I 88 t) → (∃ j_3 : Nat, j_3 < 1800 ∧ ((nI t) * 60) + (nI i) = nI j_3 ∧ ((((I 89 j_3) < 0 → ((((nI p) < 2 → (am_Run am_X0 (am_meth d) 128 R 5 [some (.ref 85), some (.int (nI t)), some (.ref 100), some (.int (nI p)), some (.int (nI (i + 1))), none] [] (am_mk I L, 0, 0))) ∧ (¬ (nI p) < 2 → (∃ j_8 : Nat, j_8 < 60 ∧ ((nI p) + (-1)) - 1 = nI j_8 ∧ (∃ j_11 : Nat, j_11 < 60 ∧ (nI p) + (-1) = nI j_11 ∧ (am_meth d 130 [.int (-(I 89 j_3)), .long (L 90 j_8), .long (L 90 j_11)] (am_mk I L, 0, 0) (am_rl (fun z_14 I_15 L_16 => am_meth d 131 [.long z_14] (am_mk I_15 L_16, 0, 0) (am_rl (fun z_17 I_18 L_19 => ∀ L_20 : Nat → Nat → Int64, L_20 = va_up L_19 90 (vp_updL (L_19 90) j_8 z_17) → (am_Run am_X0 (am_meth d) 128 R 5 [some (.ref 85), some (.int (nI t)), some (.ref 100), some (.int ((nI p) + (-1))), some (.int (nI (i + 1))), none] [] (am_mk I_18 L_20, 0, 0))))))))))))) ∧ (¬ (I 89 j_3) < 0 → ((((nI p) < 60 → (am_meth d 129 [.int (I 89 j_3), .ref 100] (am_mk I L, 0, 0) (am_rl (fun z_23 I_24 L_25 => p < 60 ∧ (∀ L_27 : Nat → Nat → Int64, L_27 = va_up L_25 90 (vp_updL (L_25 90) p z_23) → (am_Run am_X0 (am_meth d) 128 R 5 [some (.ref 85), some (.int (nI t)), some (.ref 100), some (.int (nI (p + 1))), some (.int (nI (i + 1))), none] [] (am_mk I_24 L_27, 0, 0))))))) ∧ (¬ (nI p) < 60 → (am_Run am_X0 (am_meth d) 128 R 5 [some (.ref 85), some (.int (nI t)), some (.ref 100), some (.int (nI p)), some (.int (nI (i + 1))), none] [] (am_mk I L, 0, 0)))))))))) ∧ (¬ (nI i) < (I 88 t) → (R (some (.int ((L 90 0 : Int64).toInt32))) (am_mk I L, 0, 0)))))) : am_Run am_X0 (am_meth d) 128 R 5 [some (.ref 85), some (.int (nI t)), some (.ref 100), some (.int (nI p)), some (.int (nI i)), none] [] (am_mk I L, 0, 0) := by
  refine ar_iload (q := 7) rfl rfl rfl ?_
  refine ar_aload_n (j := 0) (q := 8) rfl rfl rfl rfl ?_
  refine ar_getf (v := .ref 88) (q := 11) rfl rfl mk_85 rfl rfl ?_
  refine ar_iload_n (j := 1) (q := 12) rfl rfl rfl rfl ?_
  obtain ⟨hx_1, h⟩ := h
  refine ar_iald (v := I 88 t) (q := 13) rfl mk_88 (am_inE rfl hx_1 (by decide)) (am_clE (n := 30) rfl hx_1 (by decide)) rfl ?_
  obtain ⟨hA, hB⟩ := h
  refine ar_br am_d_ge (t := 112) (q := 16) rfl rfl rfl (fun c_2 => ?_) (fun c_2 => ?_)
  · have h := hB c_2
    clear hA hB
    refine ar_aload_n (j := 0) (q := 113) rfl rfl rfl rfl ?_
    refine ar_getf (v := .ref 90) (q := 116) rfl rfl mk_85 rfl rfl ?_
    refine ar_iconst (v := 0) (q := 117) rfl rfl rfl ?_
    refine ar_lald (v := L 90 0) (q := 118) rfl mk_90 (am_inE rfl (by decide) (by decide)) (am_clE (n := 60) rfl (by decide) (by decide)) rfl ?_
    refine ar_st (i := .l2i) (n := 1) (st' := [.int ((L 90 0 : Int64).toInt32)]) (q := 119) rfl rfl rfl rfl ?_
    exact ar_iret rfl rfl h
  · have c_2 := Classical.not_not.mp c_2
    have h := hA c_2
    clear hA hB
    refine ar_aload_n (j := 0) (q := 17) rfl rfl rfl rfl ?_
    refine ar_getf (v := .ref 89) (q := 20) rfl rfl mk_85 rfl rfl ?_
    refine ar_iload_n (j := 1) (q := 21) rfl rfl rfl rfl ?_
    refine ar_bipush (v := 60) (q := 23) rfl rfl rfl ?_
    refine ar_ib (i := .imul) (z := (nI t) * 60) (q := 24) rfl rfl rfl rfl rfl ?_
    refine ar_iload (q := 26) rfl rfl rfl ?_
    refine ar_ib (i := .iadd) (z := ((nI t) * 60) + (nI i)) (q := 27) rfl rfl rfl rfl rfl ?_
    obtain ⟨j_3, hx_4, hi_5, h⟩ := h
    refine ar_iald (v := I 89 j_3) (q := 28) rfl mk_89 (am_inE hi_5 hx_4 (by decide)) (am_clE (n := 1800) hi_5 hx_4 (by decide)) rfl ?_
    refine ar_istore (ls' := [some (.ref 85), some (.int (nI t)), some (.ref 100), some (.int (nI p)), some (.int (nI i)), some (.int (I 89 j_3))]) (q := 30) rfl rfl rfl rfl ?_
    refine ar_iload (q := 32) rfl rfl rfl ?_
    obtain ⟨hA, hB⟩ := h
    refine ar_b0 am_c_lt (t := 62) (q := 35) rfl rfl rfl (fun c_6 => ?_) (fun c_6 => ?_)
    · have h := hA c_6
      clear hA hB
      refine ar_iload (q := 64) rfl rfl rfl ?_
      refine ar_b0 am_d_ge (t := 106) (q := 67) rfl rfl rfl (fun c9 => absurd c_6 c9) (fun _ => ?_)
      refine ar_iload_n (j := 3) (q := 68) rfl rfl rfl rfl ?_
      refine ar_iconst (v := 2) (q := 69) rfl rfl rfl ?_
      obtain ⟨hA, hB⟩ := h
      refine ar_br am_c_lt (t := 106) (q := 72) rfl rfl rfl (fun c_7 => ?_) (fun c_7 => ?_)
      · have h := hA c_7
        clear hA hB
        refine ar_iinc (v := nI (i + 1)) (ls' := [some (.ref 85), some (.int (nI t)), some (.ref 100), some (.int (nI p)), some (.int (nI (i + 1))), some (.int (I 89 j_3))]) (q := 109) rfl rfl rfl (nI_1 _) rfl rfl ?_
        refine ar_goto (t := 5) rfl rfl ?_
        exact am_Run.weak (ls' := _) (by exact ⟨rfl, ⟨rfl, ⟨rfl, ⟨rfl, ⟨rfl, trivial⟩⟩⟩⟩⟩) h
      · have h := hB c_7
        clear hA hB
        refine ar_iinc (v := (nI p) + (-1)) (ls' := [some (.ref 85), some (.int (nI t)), some (.ref 100), some (.int ((nI p) + (-1))), some (.int (nI i)), some (.int (I 89 j_3))]) (q := 75) rfl rfl rfl rfl rfl rfl ?_
        refine ar_aload_n (j := 0) (q := 76) rfl rfl rfl rfl ?_
        refine ar_getf (v := .ref 90) (q := 79) rfl rfl mk_85 rfl rfl ?_
        refine ar_iload_n (j := 3) (q := 80) rfl rfl rfl rfl ?_
        refine ar_iconst (v := 1) (q := 81) rfl rfl rfl ?_
        refine ar_ib (i := .isub) (z := ((nI p) + (-1)) - 1) (q := 82) rfl rfl rfl rfl rfl ?_
        refine ar_iload (q := 84) rfl rfl rfl ?_
        refine ar_st (i := .ineg) (n := 1) (st' := [.int (-(I 89 j_3)), .int (((nI p) + (-1)) - 1), .ref 90]) (q := 85) rfl rfl rfl rfl ?_
        refine ar_aload_n (j := 0) (q := 86) rfl rfl rfl rfl ?_
        refine ar_getf (v := .ref 90) (q := 89) rfl rfl mk_85 rfl rfl ?_
        refine ar_iload_n (j := 3) (q := 90) rfl rfl rfl rfl ?_
        refine ar_iconst (v := 1) (q := 91) rfl rfl rfl ?_
        refine ar_ib (i := .isub) (z := ((nI p) + (-1)) - 1) (q := 92) rfl rfl rfl rfl rfl ?_
        obtain ⟨j_8, hx_9, hi_10, h⟩ := h
        refine ar_lald (v := L 90 j_8) (q := 93) rfl mk_90 (am_inE hi_10 hx_9 (by decide)) (am_clE (n := 60) hi_10 hx_9 (by decide)) rfl ?_
        refine ar_aload_n (j := 0) (q := 94) rfl rfl rfl rfl ?_
        refine ar_getf (v := .ref 90) (q := 97) rfl rfl mk_85 rfl rfl ?_
        refine ar_iload_n (j := 3) (q := 98) rfl rfl rfl rfl ?_
        obtain ⟨j_11, hx_12, hi_13, h⟩ := h
        refine ar_lald (v := L 90 j_11) (q := 99) rfl mk_90 (am_inE hi_13 hx_12 (by decide)) (am_clE (n := 60) hi_13 hx_12 (by decide)) rfl ?_
        refine ar_invs (as := [.int (-(I 89 j_3)), .long (L 90 j_8), .long (L 90 j_11)]) (rest := [.int (((nI p) + (-1)) - 1), .ref 90]) (b2 := (0, 0)) (b3 := (0, 0)) (q := 102) rfl rfl rfl rfl rfl rfl rfl rfl rfl ?_
        refine am_meth_mono d _ _ _ _ _ (fun v9 m9 h9 => ?_) h
        obtain ⟨z_14, I_15, L_16, rfl, rfl, h⟩ := h9
        show am_Run am_X0 (am_meth d) 128 R 102 [some (.ref 85), some (.int (nI t)), some (.ref 100), some (.int ((nI p) + (-1))), some (.int (nI i)), some (.int (I 89 j_3))] [.long z_14, .int (((nI p) + (-1)) - 1), .ref 90] (am_mk I_15 L_16, 0, 0)
        refine ar_invs (as := [.long z_14]) (rest := [.int (((nI p) + (-1)) - 1), .ref 90]) (b2 := (0, 0)) (b3 := (0, 0)) (q := 105) rfl rfl rfl rfl rfl rfl rfl rfl rfl ?_
        refine am_meth_mono d _ _ _ _ _ (fun v9 m9 h9 => ?_) h
        obtain ⟨z_17, I_18, L_19, rfl, rfl, h⟩ := h9
        show am_Run am_X0 (am_meth d) 128 R 105 [some (.ref 85), some (.int (nI t)), some (.ref 100), some (.int ((nI p) + (-1))), some (.int (nI i)), some (.int (I 89 j_3))] [.long z_17, .int (((nI p) + (-1)) - 1), .ref 90] (am_mk I_18 L_19, 0, 0)
        obtain ⟨L_20, hL_21⟩ : ∃ z : Nat → Nat → Int64, z = va_up L_19 90 (vp_updL (L_19 90) j_8 z_17) := ⟨_, rfl⟩
        have h := h L_20 hL_21
        refine ar_last (hp2 := am_mk I_18 L_20) (q := 106) rfl mk_90 (am_inE hi_10 hx_9 (by decide)) (by rw [am_clT hi_10 hx_9 (by decide), hL_21]; exact mk_s90) rfl ?_
        refine ar_iinc (v := nI (i + 1)) (ls' := [some (.ref 85), some (.int (nI t)), some (.ref 100), some (.int ((nI p) + (-1))), some (.int (nI (i + 1))), some (.int (I 89 j_3))]) (q := 109) rfl rfl rfl (nI_1 _) rfl rfl ?_
        refine ar_goto (t := 5) rfl rfl ?_
        exact am_Run.weak (ls' := _) (by exact ⟨rfl, ⟨rfl, ⟨rfl, ⟨rfl, ⟨rfl, trivial⟩⟩⟩⟩⟩) h
    · have h := hB c_6
      clear hA hB
      refine ar_iload_n (j := 3) (q := 36) rfl rfl rfl rfl ?_
      refine ar_aload_n (j := 0) (q := 37) rfl rfl rfl rfl ?_
      refine ar_getf (v := .ref 90) (q := 40) rfl rfl mk_85 rfl rfl ?_
      refine ar_st (i := .arraylength) (n := 1) (st' := [.int 60, .int (nI p)]) (q := 41) rfl rfl rfl rfl ?_
      obtain ⟨hA, hB⟩ := h
      refine ar_br am_d_ge (t := 62) (q := 44) rfl rfl rfl (fun c_22 => ?_) (fun c_22 => ?_)
      · have h := hB c_22
        clear hA hB
        refine ar_iload (q := 64) rfl rfl rfl ?_
        refine ar_b0 am_d_ge (t := 106) (q := 67) rfl rfl rfl (fun _ => ?_) (fun c9 => absurd c_6 c9)
        refine ar_iinc (v := nI (i + 1)) (ls' := [some (.ref 85), some (.int (nI t)), some (.ref 100), some (.int (nI p)), some (.int (nI (i + 1))), some (.int (I 89 j_3))]) (q := 109) rfl rfl rfl (nI_1 _) rfl rfl ?_
        refine ar_goto (t := 5) rfl rfl ?_
        exact am_Run.weak (ls' := _) (by exact ⟨rfl, ⟨rfl, ⟨rfl, ⟨rfl, ⟨rfl, trivial⟩⟩⟩⟩⟩) h
      · have c_22 := Classical.not_not.mp c_22
        have h := hA c_22
        clear hA hB
        refine ar_aload_n (j := 0) (q := 45) rfl rfl rfl rfl ?_
        refine ar_getf (v := .ref 90) (q := 48) rfl rfl mk_85 rfl rfl ?_
        refine ar_iload_n (j := 3) (q := 49) rfl rfl rfl rfl ?_
        refine ar_iinc (v := nI (p + 1)) (ls' := [some (.ref 85), some (.int (nI t)), some (.ref 100), some (.int (nI (p + 1))), some (.int (nI i)), some (.int (I 89 j_3))]) (q := 52) rfl rfl rfl (nI_1 _) rfl rfl ?_
        refine ar_iload (q := 54) rfl rfl rfl ?_
        refine ar_aload_n (j := 2) (q := 55) rfl rfl rfl rfl ?_
        refine ar_invs (as := [.int (I 89 j_3), .ref 100]) (rest := [.int (nI p), .ref 90]) (b2 := (0, 0)) (b3 := (0, 0)) (q := 58) rfl rfl rfl rfl rfl rfl rfl rfl rfl ?_
        refine am_meth_mono d _ _ _ _ _ (fun v9 m9 h9 => ?_) h
        obtain ⟨z_23, I_24, L_25, rfl, rfl, h⟩ := h9
        show am_Run am_X0 (am_meth d) 128 R 58 [some (.ref 85), some (.int (nI t)), some (.ref 100), some (.int (nI (p + 1))), some (.int (nI i)), some (.int (I 89 j_3))] [.long z_23, .int (nI p), .ref 90] (am_mk I_24 L_25, 0, 0)
        obtain ⟨hx_26, h⟩ := h
        obtain ⟨L_27, hL_28⟩ : ∃ z : Nat → Nat → Int64, z = va_up L_25 90 (vp_updL (L_25 90) p z_23) := ⟨_, rfl⟩
        have h := h L_27 hL_28
        refine ar_last (hp2 := am_mk I_24 L_27) (q := 59) rfl mk_90 (am_inE rfl hx_26 (by decide)) (by rw [am_clT rfl hx_26 (by decide), hL_28]; exact mk_s90) rfl ?_
        refine ar_goto (t := 106) rfl rfl ?_
        refine ar_iinc (v := nI (i + 1)) (ls' := [some (.ref 85), some (.int (nI t)), some (.ref 100), some (.int (nI (p + 1))), some (.int (nI (i + 1))), some (.int (I 89 j_3))]) (q := 109) rfl rfl rfl (nI_1 _) rfl rfl ?_
        refine ar_goto (t := 5) rfl rfl ?_
        exact am_Run.weak (ls' := _) (by exact ⟨rfl, ⟨rfl, ⟨rfl, ⟨rfl, ⟨rfl, trivial⟩⟩⟩⟩⟩) h
theorem r_M_open_0 {d : Nat} {R : am_R} {I : Nat → Nat → Int32} {L : Nat → Nat → Int64} {l : Nat} (h : l < 7 ∧ (∀ I_2 : Nat → Nat → Int32, I_2 = va_up I 140 (upd (I 140) l 0) → (∀ I_4 : Nat → Nat → Int32, I_4 = va_up I_2 142 (upd (I_2 142) l 0) → (∀ I_6 : Nat → Nat → Int32, I_6 = va_up I_4 143 (upd (I_4 143) l 0) → (R none (am_mk I_6 L, 0, 0)))))) : am_Run am_X0 (am_meth d) 175 R 0 [some (.ref 113), some (.int (nI l))] [] (am_mk I L, 0, 0) := by
  refine ar_aload_n (j := 0) (q := 1) rfl rfl rfl rfl ?_
  refine ar_getf (v := .ref 140) (q := 4) rfl rfl mk_113 rfl rfl ?_
  refine ar_iload_n (j := 1) (q := 5) rfl rfl rfl rfl ?_
  refine ar_iconst (v := 0) (q := 6) rfl rfl rfl ?_
  obtain ⟨hx_1, h⟩ := h
  obtain ⟨I_2, hI_3⟩ : ∃ z : Nat → Nat → Int32, z = va_up I 140 (upd (I 140) l 0) := ⟨_, rfl⟩
  have h := h I_2 hI_3
  refine ar_iast (hp2 := am_mk I_2 L) (q := 7) rfl mk_140 (am_inE rfl hx_1 (by decide)) (by rw [am_clT rfl hx_1 (by decide), hI_3]; exact mk_s140) rfl ?_
  refine ar_aload_n (j := 0) (q := 8) rfl rfl rfl rfl ?_
  refine ar_getf (v := .ref 142) (q := 11) rfl rfl mk_113 rfl rfl ?_
  refine ar_iload_n (j := 1) (q := 12) rfl rfl rfl rfl ?_
  refine ar_iconst (v := 0) (q := 13) rfl rfl rfl ?_
  obtain ⟨I_4, hI_5⟩ : ∃ z : Nat → Nat → Int32, z = va_up I_2 142 (upd (I_2 142) l 0) := ⟨_, rfl⟩
  have h := h I_4 hI_5
  refine ar_iast (hp2 := am_mk I_4 L) (q := 14) rfl mk_142 (am_inE rfl hx_1 (by decide)) (by rw [am_clT rfl hx_1 (by decide), hI_5]; exact mk_s142) rfl ?_
  refine ar_aload_n (j := 0) (q := 15) rfl rfl rfl rfl ?_
  refine ar_getf (v := .ref 143) (q := 18) rfl rfl mk_113 rfl rfl ?_
  refine ar_iload_n (j := 1) (q := 19) rfl rfl rfl rfl ?_
  refine ar_iconst (v := 0) (q := 20) rfl rfl rfl ?_
  obtain ⟨I_6, hI_7⟩ : ∃ z : Nat → Nat → Int32, z = va_up I_4 143 (upd (I_4 143) l 0) := ⟨_, rfl⟩
  have h := h I_6 hI_7
  refine ar_iast (hp2 := am_mk I_6 L) (q := 21) rfl mk_143 (am_inE rfl hx_1 (by decide)) (by rw [am_clT rfl hx_1 (by decide), hI_7]; exact mk_s143) rfl ?_
  exact ar_vret rfl rfl h
theorem r_M_unit_0 {d : Nat} {R : am_R} {I : Nat → Nat → Int32} {L : Nat → Nat → Int64} {l : Nat} {v : Int64} (h : l < 7 ∧ ((((I 142 l) = 0 → (∀ L_3 : Nat → Nat → Int64, L_3 = va_up L 141 (vp_updL (L 141) l v) → (R none (am_mk I L_3, 0, 0)))) ∧ (¬ (I 142 l) = 0 → ((((I 142 l) = 42 → (am_meth d 178 [.ref 113, .long ((L 141 l) * v)] (am_mk I L, 0, 0) (am_rl (fun z_6 I_7 L_8 => ∀ L_9 : Nat → Nat → Int64, L_9 = va_up L_8 141 (vp_updL (L_8 141) l z_6) → (R none (am_mk I_7 L_9, 0, 0)))))) ∧ (¬ (I 142 l) = 42 → ((((lg_cmp v (0 : Int64)) = 0 → (∀ L_12 : Nat → Nat → Int64, L_12 = va_up L 141 (vp_updL (L 141) l (0 : Int64)) → (R none (am_mk I L_12, 0, 0)))) ∧ (¬ (lg_cmp v (0 : Int64)) = 0 → (¬ v = 0 ∧ (am_meth d 178 [.ref 113, .long ((L 141 l) / v)] (am_mk I L, 0, 0) (am_rl (fun z_15 I_16 L_17 => ∀ L_18 : Nat → Nat → Int64, L_18 = va_up L_17 141 (vp_updL (L_17 141) l z_15) → (R none (am_mk I_16 L_18, 0, 0)))))))))))))))) : am_Run am_X0 (am_meth d) 179 R 0 [some (.ref 113), some (.int (nI l)), some (.long v), none] [] (am_mk I L, 0, 0) := by
  refine ar_aload_n (j := 0) (q := 1) rfl rfl rfl rfl ?_
  refine ar_getf (v := .ref 142) (q := 4) rfl rfl mk_113 rfl rfl ?_
  refine ar_iload_n (j := 1) (q := 5) rfl rfl rfl rfl ?_
  obtain ⟨hx_1, h⟩ := h
  refine ar_iald (v := I 142 l) (q := 6) rfl mk_142 (am_inE rfl hx_1 (by decide)) (am_clE (n := 7) rfl hx_1 (by decide)) rfl ?_
  obtain ⟨hA, hB⟩ := h
  refine ar_b0 am_c_ne (t := 19) (q := 9) rfl rfl rfl (fun c_2 => ?_) (fun c_2 => ?_)
  · have h := hB c_2
    clear hA hB
    refine ar_aload_n (j := 0) (q := 20) rfl rfl rfl rfl ?_
    refine ar_getf (v := .ref 142) (q := 23) rfl rfl mk_113 rfl rfl ?_
    refine ar_iload_n (j := 1) (q := 24) rfl rfl rfl rfl ?_
    refine ar_iald (v := I 142 l) (q := 25) rfl mk_142 (am_inE rfl hx_1 (by decide)) (am_clE (n := 7) rfl hx_1 (by decide)) rfl ?_
    refine ar_bipush (v := 42) (q := 27) rfl rfl rfl ?_
    obtain ⟨hA, hB⟩ := h
    refine ar_br am_c_ne (t := 51) (q := 30) rfl rfl rfl (fun c_5 => ?_) (fun c_5 => ?_)
    · have h := hB c_5
      clear hA hB
      refine ar_aload_n (j := 0) (q := 52) rfl rfl rfl rfl ?_
      refine ar_getf (v := .ref 141) (q := 55) rfl rfl mk_113 rfl rfl ?_
      refine ar_iload_n (j := 1) (q := 56) rfl rfl rfl rfl ?_
      refine ar_lload_n (j := 2) (q := 57) rfl rfl rfl rfl ?_
      refine ar_lconst (v := 0) (q := 58) rfl rfl rfl ?_
      refine ar_st (i := .lcmp) (n := 1) (st' := [.int (lg_cmp v (0 : Int64)), .int (nI l), .ref 141]) (q := 59) rfl rfl rfl rfl ?_
      obtain ⟨hA, hB⟩ := h
      refine ar_b0 am_c_ne (t := 66) (q := 62) rfl rfl rfl (fun c_11 => ?_) (fun c_11 => ?_)
      · have h := hB c_11
        clear hA hB
        refine ar_aload_n (j := 0) (q := 67) rfl rfl rfl rfl ?_
        refine ar_aload_n (j := 0) (q := 68) rfl rfl rfl rfl ?_
        refine ar_getf (v := .ref 141) (q := 71) rfl rfl mk_113 rfl rfl ?_
        refine ar_iload_n (j := 1) (q := 72) rfl rfl rfl rfl ?_
        refine ar_lald (v := L 141 l) (q := 73) rfl mk_141 (am_inE rfl hx_1 (by decide)) (am_clE (n := 7) rfl hx_1 (by decide)) rfl ?_
        refine ar_lload_n (j := 2) (q := 74) rfl rfl rfl rfl ?_
        obtain ⟨hz_14, h⟩ := h
        refine ar_ldiv (q := 75) rfl hz_14 rfl ?_
        refine ar_invv (as := [.long ((L 141 l) / v)]) (rest := [.int (nI l), .ref 141]) (b2 := (0, 0)) (b3 := (0, 0)) (q := 78) rfl rfl rfl rfl mk_113 rfl rfl rfl rfl rfl ?_
        refine am_meth_mono d _ _ _ _ _ (fun v9 m9 h9 => ?_) h
        obtain ⟨z_15, I_16, L_17, rfl, rfl, h⟩ := h9
        show am_Run am_X0 (am_meth d) 179 R 78 [some (.ref 113), some (.int (nI l)), some (.long v), none] [.long z_15, .int (nI l), .ref 141] (am_mk I_16 L_17, 0, 0)
        obtain ⟨L_18, hL_19⟩ : ∃ z : Nat → Nat → Int64, z = va_up L_17 141 (vp_updL (L_17 141) l z_15) := ⟨_, rfl⟩
        have h := h L_18 hL_19
        refine ar_last (hp2 := am_mk I_16 L_18) (q := 79) rfl mk_141 (am_inE rfl hx_1 (by decide)) (by rw [am_clT rfl hx_1 (by decide), hL_19]; exact mk_s141) rfl ?_
        exact ar_vret rfl rfl h
      · have c_11 := Classical.not_not.mp c_11
        have h := hA c_11
        clear hA hB
        refine ar_lconst (v := 0) (q := 63) rfl rfl rfl ?_
        refine ar_goto (t := 78) rfl rfl ?_
        obtain ⟨L_12, hL_13⟩ : ∃ z : Nat → Nat → Int64, z = va_up L 141 (vp_updL (L 141) l (0 : Int64)) := ⟨_, rfl⟩
        have h := h L_12 hL_13
        refine ar_last (hp2 := am_mk I L_12) (q := 79) rfl mk_141 (am_inE rfl hx_1 (by decide)) (by rw [am_clT rfl hx_1 (by decide), hL_13]; exact mk_s141) rfl ?_
        exact ar_vret rfl rfl h
    · have c_5 := Classical.not_not.mp c_5
      have h := hA c_5
      clear hA hB
      refine ar_aload_n (j := 0) (q := 31) rfl rfl rfl rfl ?_
      refine ar_getf (v := .ref 141) (q := 34) rfl rfl mk_113 rfl rfl ?_
      refine ar_iload_n (j := 1) (q := 35) rfl rfl rfl rfl ?_
      refine ar_aload_n (j := 0) (q := 36) rfl rfl rfl rfl ?_
      refine ar_aload_n (j := 0) (q := 37) rfl rfl rfl rfl ?_
      refine ar_getf (v := .ref 141) (q := 40) rfl rfl mk_113 rfl rfl ?_
      refine ar_iload_n (j := 1) (q := 41) rfl rfl rfl rfl ?_
      refine ar_lald (v := L 141 l) (q := 42) rfl mk_141 (am_inE rfl hx_1 (by decide)) (am_clE (n := 7) rfl hx_1 (by decide)) rfl ?_
      refine ar_lload_n (j := 2) (q := 43) rfl rfl rfl rfl ?_
      refine ar_lb (i := .lmul) (z := (L 141 l) * v) (q := 44) rfl rfl rfl rfl rfl rfl ?_
      refine ar_invv (as := [.long ((L 141 l) * v)]) (rest := [.int (nI l), .ref 141]) (b2 := (0, 0)) (b3 := (0, 0)) (q := 47) rfl rfl rfl rfl mk_113 rfl rfl rfl rfl rfl ?_
      refine am_meth_mono d _ _ _ _ _ (fun v9 m9 h9 => ?_) h
      obtain ⟨z_6, I_7, L_8, rfl, rfl, h⟩ := h9
      show am_Run am_X0 (am_meth d) 179 R 47 [some (.ref 113), some (.int (nI l)), some (.long v), none] [.long z_6, .int (nI l), .ref 141] (am_mk I_7 L_8, 0, 0)
      obtain ⟨L_9, hL_10⟩ : ∃ z : Nat → Nat → Int64, z = va_up L_8 141 (vp_updL (L_8 141) l z_6) := ⟨_, rfl⟩
      have h := h L_9 hL_10
      refine ar_last (hp2 := am_mk I_7 L_9) (q := 48) rfl mk_141 (am_inE rfl hx_1 (by decide)) (by rw [am_clT rfl hx_1 (by decide), hL_10]; exact mk_s141) rfl ?_
      refine ar_goto (t := 79) rfl rfl ?_
      exact ar_vret rfl rfl h
  · have c_2 := Classical.not_not.mp c_2
    have h := hA c_2
    clear hA hB
    refine ar_aload_n (j := 0) (q := 10) rfl rfl rfl rfl ?_
    refine ar_getf (v := .ref 141) (q := 13) rfl rfl mk_113 rfl rfl ?_
    refine ar_iload_n (j := 1) (q := 14) rfl rfl rfl rfl ?_
    refine ar_lload_n (j := 2) (q := 15) rfl rfl rfl rfl ?_
    obtain ⟨L_3, hL_4⟩ : ∃ z : Nat → Nat → Int64, z = va_up L 141 (vp_updL (L 141) l v) := ⟨_, rfl⟩
    have h := h L_3 hL_4
    refine ar_last (hp2 := am_mk I L_3) (q := 16) rfl mk_141 (am_inE rfl hx_1 (by decide)) (by rw [am_clT rfl hx_1 (by decide), hL_4]; exact mk_s141) rfl ?_
    refine ar_goto (t := 79) rfl rfl ?_
    exact ar_vret rfl rfl h
theorem r_M_total_0 {d : Nat} {R : am_R} {I : Nat → Nat → Int32} {L : Nat → Nat → Int64} {l : Nat} (h : l < 7 ∧ ((((I 140 l) = 0 → (R (some (.long (L 141 l))) (am_mk I L, 0, 0))) ∧ (¬ (I 140 l) = 0 → ((((I 140 l) = 43 → (am_meth d 178 [.ref 113, .long ((L 139 l) + (L 141 l))] (am_mk I L, 0, 0) (am_rl (fun z_4 I_5 L_6 => R (some (.long z_4)) (am_mk I_5 L_6, 0, 0))))) ∧ (¬ (I 140 l) = 43 → (am_meth d 178 [.ref 113, .long ((L 139 l) - (L 141 l))] (am_mk I L, 0, 0) (am_rl (fun z_7 I_8 L_9 => R (some (.long z_7)) (am_mk I_8 L_9, 0, 0))))))))))) : am_Run am_X0 (am_meth d) 177 R 0 [some (.ref 113), some (.int (nI l))] [] (am_mk I L, 0, 0) := by
  refine ar_aload_n (j := 0) (q := 1) rfl rfl rfl rfl ?_
  refine ar_getf (v := .ref 140) (q := 4) rfl rfl mk_113 rfl rfl ?_
  refine ar_iload_n (j := 1) (q := 5) rfl rfl rfl rfl ?_
  obtain ⟨hx_1, h⟩ := h
  refine ar_iald (v := I 140 l) (q := 6) rfl mk_140 (am_inE rfl hx_1 (by decide)) (am_clE (n := 7) rfl hx_1 (by decide)) rfl ?_
  obtain ⟨hA, hB⟩ := h
  refine ar_b0 am_c_ne (t := 16) (q := 9) rfl rfl rfl (fun c_2 => ?_) (fun c_2 => ?_)
  · have h := hB c_2
    clear hA hB
    refine ar_aload_n (j := 0) (q := 17) rfl rfl rfl rfl ?_
    refine ar_aload_n (j := 0) (q := 18) rfl rfl rfl rfl ?_
    refine ar_getf (v := .ref 140) (q := 21) rfl rfl mk_113 rfl rfl ?_
    refine ar_iload_n (j := 1) (q := 22) rfl rfl rfl rfl ?_
    refine ar_iald (v := I 140 l) (q := 23) rfl mk_140 (am_inE rfl hx_1 (by decide)) (am_clE (n := 7) rfl hx_1 (by decide)) rfl ?_
    refine ar_bipush (v := 43) (q := 25) rfl rfl rfl ?_
    obtain ⟨hA, hB⟩ := h
    refine ar_br am_c_ne (t := 44) (q := 28) rfl rfl rfl (fun c_3 => ?_) (fun c_3 => ?_)
    · have h := hB c_3
      clear hA hB
      refine ar_aload_n (j := 0) (q := 45) rfl rfl rfl rfl ?_
      refine ar_getf (v := .ref 139) (q := 48) rfl rfl mk_113 rfl rfl ?_
      refine ar_iload_n (j := 1) (q := 49) rfl rfl rfl rfl ?_
      refine ar_lald (v := L 139 l) (q := 50) rfl mk_139 (am_inE rfl hx_1 (by decide)) (am_clE (n := 7) rfl hx_1 (by decide)) rfl ?_
      refine ar_aload_n (j := 0) (q := 51) rfl rfl rfl rfl ?_
      refine ar_getf (v := .ref 141) (q := 54) rfl rfl mk_113 rfl rfl ?_
      refine ar_iload_n (j := 1) (q := 55) rfl rfl rfl rfl ?_
      refine ar_lald (v := L 141 l) (q := 56) rfl mk_141 (am_inE rfl hx_1 (by decide)) (am_clE (n := 7) rfl hx_1 (by decide)) rfl ?_
      refine ar_lb (i := .lsub) (z := (L 139 l) - (L 141 l)) (q := 57) rfl rfl rfl rfl rfl rfl ?_
      refine ar_invv (as := [.long ((L 139 l) - (L 141 l))]) (rest := []) (b2 := (0, 0)) (b3 := (0, 0)) (q := 60) rfl rfl rfl rfl mk_113 rfl rfl rfl rfl rfl ?_
      refine am_meth_mono d _ _ _ _ _ (fun v9 m9 h9 => ?_) h
      obtain ⟨z_7, I_8, L_9, rfl, rfl, h⟩ := h9
      show am_Run am_X0 (am_meth d) 177 R 60 [some (.ref 113), some (.int (nI l))] [.long z_7] (am_mk I_8 L_9, 0, 0)
      exact ar_lret rfl rfl h
    · have c_3 := Classical.not_not.mp c_3
      have h := hA c_3
      clear hA hB
      refine ar_aload_n (j := 0) (q := 29) rfl rfl rfl rfl ?_
      refine ar_getf (v := .ref 139) (q := 32) rfl rfl mk_113 rfl rfl ?_
      refine ar_iload_n (j := 1) (q := 33) rfl rfl rfl rfl ?_
      refine ar_lald (v := L 139 l) (q := 34) rfl mk_139 (am_inE rfl hx_1 (by decide)) (am_clE (n := 7) rfl hx_1 (by decide)) rfl ?_
      refine ar_aload_n (j := 0) (q := 35) rfl rfl rfl rfl ?_
      refine ar_getf (v := .ref 141) (q := 38) rfl rfl mk_113 rfl rfl ?_
      refine ar_iload_n (j := 1) (q := 39) rfl rfl rfl rfl ?_
      refine ar_lald (v := L 141 l) (q := 40) rfl mk_141 (am_inE rfl hx_1 (by decide)) (am_clE (n := 7) rfl hx_1 (by decide)) rfl ?_
      refine ar_lb (i := .ladd) (z := (L 139 l) + (L 141 l)) (q := 41) rfl rfl rfl rfl rfl rfl ?_
      refine ar_goto (t := 57) rfl rfl ?_
      refine ar_invv (as := [.long ((L 139 l) + (L 141 l))]) (rest := []) (b2 := (0, 0)) (b3 := (0, 0)) (q := 60) rfl rfl rfl rfl mk_113 rfl rfl rfl rfl rfl ?_
      refine am_meth_mono d _ _ _ _ _ (fun v9 m9 h9 => ?_) h
      obtain ⟨z_4, I_5, L_6, rfl, rfl, h⟩ := h9
      show am_Run am_X0 (am_meth d) 177 R 60 [some (.ref 113), some (.int (nI l))] [.long z_4] (am_mk I_5 L_6, 0, 0)
      exact ar_lret rfl rfl h
  · have c_2 := Classical.not_not.mp c_2
    have h := hA c_2
    clear hA hB
    refine ar_aload_n (j := 0) (q := 10) rfl rfl rfl rfl ?_
    refine ar_getf (v := .ref 141) (q := 13) rfl rfl mk_113 rfl rfl ?_
    refine ar_iload_n (j := 1) (q := 14) rfl rfl rfl rfl ?_
    refine ar_lald (v := L 141 l) (q := 15) rfl mk_141 (am_inE rfl hx_1 (by decide)) (am_clE (n := 7) rfl hx_1 (by decide)) rfl ?_
    exact ar_lret rfl rfl h
theorem r_M_closed_0 {d : Nat} {R : am_R} {I : Nat → Nat → Int32} {L : Nat → Nat → Int64} {l : Nat} (h : am_meth d 177 [.ref 113, .int (nI l)] (am_mk I L, 0, 0) (am_rl (fun z_1 I_2 L_3 => l < 7 ∧ ((((I_2 143 l) = 0 → (R (some (.long z_1)) (am_mk I_2 L_3, 0, 0))) ∧ (¬ (I_2 143 l) = 0 → ((((I_2 143 l) = 60 → ((((lg_cmp (L_3 144 l) z_1) < 0 → (R (some (.long (1 : Int64))) (am_mk I_2 L_3, 0, 0))) ∧ (¬ (lg_cmp (L_3 144 l) z_1) < 0 → (R (some (.long (0 : Int64))) (am_mk I_2 L_3, 0, 0)))))) ∧ (¬ (I_2 143 l) = 60 → ((((I_2 143 l) = 61 → ((((lg_cmp (L_3 144 l) z_1) = 0 → (R (some (.long (1 : Int64))) (am_mk I_2 L_3, 0, 0))) ∧ (¬ (lg_cmp (L_3 144 l) z_1) = 0 → (R (some (.long (0 : Int64))) (am_mk I_2 L_3, 0, 0)))))) ∧ (¬ (I_2 143 l) = 61 → ((((lg_cmp (L_3 144 l) z_1) ≤ 0 → (R (some (.long (0 : Int64))) (am_mk I_2 L_3, 0, 0))) ∧ (¬ (lg_cmp (L_3 144 l) z_1) ≤ 0 → (R (some (.long (1 : Int64))) (am_mk I_2 L_3, 0, 0))))))))))))))))) : am_Run am_X0 (am_meth d) 176 R 0 [some (.ref 113), some (.int (nI l)), none, none, none] [] (am_mk I L, 0, 0) := by
  refine ar_aload_n (j := 0) (q := 1) rfl rfl rfl rfl ?_
  refine ar_iload_n (j := 1) (q := 2) rfl rfl rfl rfl ?_
  refine ar_invv (as := [.int (nI l)]) (rest := []) (b2 := (0, 0)) (b3 := (0, 0)) (q := 5) rfl rfl rfl rfl mk_113 rfl rfl rfl rfl rfl ?_
  refine am_meth_mono d _ _ _ _ _ (fun v9 m9 h9 => ?_) h
  obtain ⟨z_1, I_2, L_3, rfl, rfl, h⟩ := h9
  show am_Run am_X0 (am_meth d) 176 R 5 [some (.ref 113), some (.int (nI l)), none, none, none] [.long z_1] (am_mk I_2 L_3, 0, 0)
  refine ar_lstore_n (j := 2) (ls' := [some (.ref 113), some (.int (nI l)), some (.long z_1), none, none]) (q := 6) rfl rfl rfl rfl rfl ?_
  refine ar_aload_n (j := 0) (q := 7) rfl rfl rfl rfl ?_
  refine ar_getf (v := .ref 143) (q := 10) rfl rfl mk_113 rfl rfl ?_
  refine ar_iload_n (j := 1) (q := 11) rfl rfl rfl rfl ?_
  obtain ⟨hx_4, h⟩ := h
  refine ar_iald (v := I_2 143 l) (q := 12) rfl mk_143 (am_inE rfl hx_4 (by decide)) (am_clE (n := 7) rfl hx_4 (by decide)) rfl ?_
  obtain ⟨hA, hB⟩ := h
  refine ar_b0 am_c_ne (t := 17) (q := 15) rfl rfl rfl (fun c_5 => ?_) (fun c_5 => ?_)
  · have h := hB c_5
    clear hA hB
    refine ar_aload_n (j := 0) (q := 18) rfl rfl rfl rfl ?_
    refine ar_getf (v := .ref 143) (q := 21) rfl rfl mk_113 rfl rfl ?_
    refine ar_iload_n (j := 1) (q := 22) rfl rfl rfl rfl ?_
    refine ar_iald (v := I_2 143 l) (q := 23) rfl mk_143 (am_inE rfl hx_4 (by decide)) (am_clE (n := 7) rfl hx_4 (by decide)) rfl ?_
    refine ar_bipush (v := 60) (q := 25) rfl rfl rfl ?_
    obtain ⟨hA, hB⟩ := h
    refine ar_br am_c_ne (t := 47) (q := 28) rfl rfl rfl (fun c_6 => ?_) (fun c_6 => ?_)
    · have h := hB c_6
      clear hA hB
      refine ar_aload_n (j := 0) (q := 48) rfl rfl rfl rfl ?_
      refine ar_getf (v := .ref 143) (q := 51) rfl rfl mk_113 rfl rfl ?_
      refine ar_iload_n (j := 1) (q := 52) rfl rfl rfl rfl ?_
      refine ar_iald (v := I_2 143 l) (q := 53) rfl mk_143 (am_inE rfl hx_4 (by decide)) (am_clE (n := 7) rfl hx_4 (by decide)) rfl ?_
      refine ar_bipush (v := 61) (q := 55) rfl rfl rfl ?_
      obtain ⟨hA, hB⟩ := h
      refine ar_br am_c_ne (t := 77) (q := 58) rfl rfl rfl (fun c_8 => ?_) (fun c_8 => ?_)
      · have h := hB c_8
        clear hA hB
        refine ar_aload_n (j := 0) (q := 78) rfl rfl rfl rfl ?_
        refine ar_getf (v := .ref 144) (q := 81) rfl rfl mk_113 rfl rfl ?_
        refine ar_iload_n (j := 1) (q := 82) rfl rfl rfl rfl ?_
        refine ar_lald (v := L_3 144 l) (q := 83) rfl mk_144 (am_inE rfl hx_4 (by decide)) (am_clE (n := 7) rfl hx_4 (by decide)) rfl ?_
        refine ar_lload_n (j := 2) (q := 84) rfl rfl rfl rfl ?_
        refine ar_st (i := .lcmp) (n := 1) (st' := [.int (lg_cmp (L_3 144 l) z_1)]) (q := 85) rfl rfl rfl rfl ?_
        obtain ⟨hA, hB⟩ := h
        refine ar_b0 am_c_le (t := 92) (q := 88) rfl rfl rfl (fun c_10 => ?_) (fun c_10 => ?_)
        · have h := hA c_10
          clear hA hB
          refine ar_iconst (v := 0) (q := 93) rfl rfl rfl ?_
          refine ar_istore (ls' := [some (.ref 113), some (.int (nI l)), some (.long z_1), none, some (.int 0)]) (q := 95) rfl rfl rfl rfl ?_
          refine ar_iload (q := 97) rfl rfl rfl ?_
          refine ar_b0 am_c_eq (t := 104) (q := 100) rfl rfl rfl (fun _ => ?_) (fun c9 => absurd (by decide) c9)
          refine ar_lconst (v := 0) (q := 105) rfl rfl rfl ?_
          exact ar_lret rfl rfl h
        · have h := hB c_10
          clear hA hB
          refine ar_iconst (v := 1) (q := 89) rfl rfl rfl ?_
          refine ar_goto (t := 93) rfl rfl ?_
          refine ar_istore (ls' := [some (.ref 113), some (.int (nI l)), some (.long z_1), none, some (.int 1)]) (q := 95) rfl rfl rfl rfl ?_
          refine ar_iload (q := 97) rfl rfl rfl ?_
          refine ar_b0 am_c_eq (t := 104) (q := 100) rfl rfl rfl (fun c9 => absurd c9 (by decide)) (fun _ => ?_)
          refine ar_lconst (v := 1) (q := 101) rfl rfl rfl ?_
          refine ar_goto (t := 105) rfl rfl ?_
          exact ar_lret rfl rfl h
      · have c_8 := Classical.not_not.mp c_8
        have h := hA c_8
        clear hA hB
        refine ar_aload_n (j := 0) (q := 59) rfl rfl rfl rfl ?_
        refine ar_getf (v := .ref 144) (q := 62) rfl rfl mk_113 rfl rfl ?_
        refine ar_iload_n (j := 1) (q := 63) rfl rfl rfl rfl ?_
        refine ar_lald (v := L_3 144 l) (q := 64) rfl mk_144 (am_inE rfl hx_4 (by decide)) (am_clE (n := 7) rfl hx_4 (by decide)) rfl ?_
        refine ar_lload_n (j := 2) (q := 65) rfl rfl rfl rfl ?_
        refine ar_st (i := .lcmp) (n := 1) (st' := [.int (lg_cmp (L_3 144 l) z_1)]) (q := 66) rfl rfl rfl rfl ?_
        obtain ⟨hA, hB⟩ := h
        refine ar_b0 am_c_ne (t := 73) (q := 69) rfl rfl rfl (fun c_9 => ?_) (fun c_9 => ?_)
        · have h := hB c_9
          clear hA hB
          refine ar_iconst (v := 0) (q := 74) rfl rfl rfl ?_
          refine ar_goto (t := 93) rfl rfl ?_
          refine ar_istore (ls' := [some (.ref 113), some (.int (nI l)), some (.long z_1), none, some (.int 0)]) (q := 95) rfl rfl rfl rfl ?_
          refine ar_iload (q := 97) rfl rfl rfl ?_
          refine ar_b0 am_c_eq (t := 104) (q := 100) rfl rfl rfl (fun _ => ?_) (fun c9 => absurd (by decide) c9)
          refine ar_lconst (v := 0) (q := 105) rfl rfl rfl ?_
          exact ar_lret rfl rfl h
        · have c_9 := Classical.not_not.mp c_9
          have h := hA c_9
          clear hA hB
          refine ar_iconst (v := 1) (q := 70) rfl rfl rfl ?_
          refine ar_goto (t := 93) rfl rfl ?_
          refine ar_istore (ls' := [some (.ref 113), some (.int (nI l)), some (.long z_1), none, some (.int 1)]) (q := 95) rfl rfl rfl rfl ?_
          refine ar_iload (q := 97) rfl rfl rfl ?_
          refine ar_b0 am_c_eq (t := 104) (q := 100) rfl rfl rfl (fun c9 => absurd c9 (by decide)) (fun _ => ?_)
          refine ar_lconst (v := 1) (q := 101) rfl rfl rfl ?_
          refine ar_goto (t := 105) rfl rfl ?_
          exact ar_lret rfl rfl h
    · have c_6 := Classical.not_not.mp c_6
      have h := hA c_6
      clear hA hB
      refine ar_aload_n (j := 0) (q := 29) rfl rfl rfl rfl ?_
      refine ar_getf (v := .ref 144) (q := 32) rfl rfl mk_113 rfl rfl ?_
      refine ar_iload_n (j := 1) (q := 33) rfl rfl rfl rfl ?_
      refine ar_lald (v := L_3 144 l) (q := 34) rfl mk_144 (am_inE rfl hx_4 (by decide)) (am_clE (n := 7) rfl hx_4 (by decide)) rfl ?_
      refine ar_lload_n (j := 2) (q := 35) rfl rfl rfl rfl ?_
      refine ar_st (i := .lcmp) (n := 1) (st' := [.int (lg_cmp (L_3 144 l) z_1)]) (q := 36) rfl rfl rfl rfl ?_
      obtain ⟨hA, hB⟩ := h
      refine ar_b0 am_d_ge (t := 43) (q := 39) rfl rfl rfl (fun c_7 => ?_) (fun c_7 => ?_)
      · have h := hB c_7
        clear hA hB
        refine ar_iconst (v := 0) (q := 44) rfl rfl rfl ?_
        refine ar_goto (t := 93) rfl rfl ?_
        refine ar_istore (ls' := [some (.ref 113), some (.int (nI l)), some (.long z_1), none, some (.int 0)]) (q := 95) rfl rfl rfl rfl ?_
        refine ar_iload (q := 97) rfl rfl rfl ?_
        refine ar_b0 am_c_eq (t := 104) (q := 100) rfl rfl rfl (fun _ => ?_) (fun c9 => absurd (by decide) c9)
        refine ar_lconst (v := 0) (q := 105) rfl rfl rfl ?_
        exact ar_lret rfl rfl h
      · have c_7 := Classical.not_not.mp c_7
        have h := hA c_7
        clear hA hB
        refine ar_iconst (v := 1) (q := 40) rfl rfl rfl ?_
        refine ar_goto (t := 93) rfl rfl ?_
        refine ar_istore (ls' := [some (.ref 113), some (.int (nI l)), some (.long z_1), none, some (.int 1)]) (q := 95) rfl rfl rfl rfl ?_
        refine ar_iload (q := 97) rfl rfl rfl ?_
        refine ar_b0 am_c_eq (t := 104) (q := 100) rfl rfl rfl (fun c9 => absurd c9 (by decide)) (fun _ => ?_)
        refine ar_lconst (v := 1) (q := 101) rfl rfl rfl ?_
        refine ar_goto (t := 105) rfl rfl ?_
        exact ar_lret rfl rfl h
  · have c_5 := Classical.not_not.mp c_5
    have h := hA c_5
    clear hA hB
    refine ar_lload_n (j := 2) (q := 16) rfl rfl rfl rfl ?_
    exact ar_lret rfl rfl h
theorem r_M_isDigit_0 {d : Nat} {R : am_R} {I : Nat → Nat → Int32} {L : Nat → Nat → Int64} {x : Int32} (h : ((x < 48 → (R (some (.int 0)) (am_mk I L, 0, 0))) ∧ (¬ x < 48 → (((x ≤ 57 → (R (some (.int 1)) (am_mk I L, 0, 0))) ∧ (¬ x ≤ 57 → (R (some (.int 0)) (am_mk I L, 0, 0)))))))) : am_Run am_X0 (am_meth d) 190 R 0 [some (.ref 113), some (.int x)] [] (am_mk I L, 0, 0) := by
  refine ar_iload_n (j := 1) (q := 1) rfl rfl rfl rfl ?_
  refine ar_bipush (v := 48) (q := 3) rfl rfl rfl ?_
  obtain ⟨hA, hB⟩ := h
  refine ar_br am_c_lt (t := 16) (q := 6) rfl rfl rfl (fun c_1 => ?_) (fun c_1 => ?_)
  · have h := hA c_1
    clear hA hB
    refine ar_iconst (v := 0) (q := 17) rfl rfl rfl ?_
    exact ar_zret rfl rfl (Or.inl rfl) h
  · have h := hB c_1
    clear hA hB
    refine ar_iload_n (j := 1) (q := 7) rfl rfl rfl rfl ?_
    refine ar_bipush (v := 57) (q := 9) rfl rfl rfl ?_
    obtain ⟨hA, hB⟩ := h
    refine ar_br am_d_gt (t := 16) (q := 12) rfl rfl rfl (fun c_2 => ?_) (fun c_2 => ?_)
    · have h := hB c_2
      clear hA hB
      refine ar_iconst (v := 0) (q := 17) rfl rfl rfl ?_
      exact ar_zret rfl rfl (Or.inl rfl) h
    · have c_2 := Classical.not_not.mp c_2
      have h := hA c_2
      clear hA hB
      refine ar_iconst (v := 1) (q := 13) rfl rfl rfl ?_
      refine ar_goto (t := 17) rfl rfl ?_
      exact ar_zret rfl rfl (Or.inr rfl) h
theorem r_M_isLetter_0 {d : Nat} {R : am_R} {I : Nat → Nat → Int32} {L : Nat → Nat → Int64} {x : Int32} (h : ((x = 116 → (R (some (.int 1)) (am_mk I L, 0, 0))) ∧ (¬ x = 116 → (((x = 110 → (R (some (.int 1)) (am_mk I L, 0, 0))) ∧ (¬ x = 110 → (((x = 112 → (R (some (.int 1)) (am_mk I L, 0, 0))) ∧ (¬ x = 112 → (((x = 98 → (R (some (.int 1)) (am_mk I L, 0, 0))) ∧ (¬ x = 98 → (((x = 100 → (R (some (.int 1)) (am_mk I L, 0, 0))) ∧ (¬ x = 100 → (((x = 108 → (R (some (.int 1)) (am_mk I L, 0, 0))) ∧ (¬ x = 108 → (((x = 104 → (R (some (.int 1)) (am_mk I L, 0, 0))) ∧ (¬ x = 104 → (((x = 107 → (R (some (.int 1)) (am_mk I L, 0, 0))) ∧ (¬ x = 107 → (((x = 121 → (R (some (.int 1)) (am_mk I L, 0, 0))) ∧ (¬ x = 121 → (((x = 122 → (R (some (.int 1)) (am_mk I L, 0, 0))) ∧ (¬ x = 122 → (R (some (.int 0)) (am_mk I L, 0, 0)))))))))))))))))))))))))))))))) : am_Run am_X0 (am_meth d) 182 R 0 [some (.ref 113), some (.int x)] [] (am_mk I L, 0, 0) := by
  refine ar_iload_n (j := 1) (q := 1) rfl rfl rfl rfl ?_
  refine ar_bipush (v := 116) (q := 3) rfl rfl rfl ?_
  obtain ⟨hA, hB⟩ := h
  refine ar_br am_c_eq (t := 60) (q := 6) rfl rfl rfl (fun c_1 => ?_) (fun c_1 => ?_)
  · have h := hA c_1
    clear hA hB
    refine ar_iconst (v := 1) (q := 61) rfl rfl rfl ?_
    refine ar_goto (t := 65) rfl rfl ?_
    exact ar_zret rfl rfl (Or.inr rfl) h
  · have h := hB c_1
    clear hA hB
    refine ar_iload_n (j := 1) (q := 7) rfl rfl rfl rfl ?_
    refine ar_bipush (v := 110) (q := 9) rfl rfl rfl ?_
    obtain ⟨hA, hB⟩ := h
    refine ar_br am_c_eq (t := 60) (q := 12) rfl rfl rfl (fun c_2 => ?_) (fun c_2 => ?_)
    · have h := hA c_2
      clear hA hB
      refine ar_iconst (v := 1) (q := 61) rfl rfl rfl ?_
      refine ar_goto (t := 65) rfl rfl ?_
      exact ar_zret rfl rfl (Or.inr rfl) h
    · have h := hB c_2
      clear hA hB
      refine ar_iload_n (j := 1) (q := 13) rfl rfl rfl rfl ?_
      refine ar_bipush (v := 112) (q := 15) rfl rfl rfl ?_
      obtain ⟨hA, hB⟩ := h
      refine ar_br am_c_eq (t := 60) (q := 18) rfl rfl rfl (fun c_3 => ?_) (fun c_3 => ?_)
      · have h := hA c_3
        clear hA hB
        refine ar_iconst (v := 1) (q := 61) rfl rfl rfl ?_
        refine ar_goto (t := 65) rfl rfl ?_
        exact ar_zret rfl rfl (Or.inr rfl) h
      · have h := hB c_3
        clear hA hB
        refine ar_iload_n (j := 1) (q := 19) rfl rfl rfl rfl ?_
        refine ar_bipush (v := 98) (q := 21) rfl rfl rfl ?_
        obtain ⟨hA, hB⟩ := h
        refine ar_br am_c_eq (t := 60) (q := 24) rfl rfl rfl (fun c_4 => ?_) (fun c_4 => ?_)
        · have h := hA c_4
          clear hA hB
          refine ar_iconst (v := 1) (q := 61) rfl rfl rfl ?_
          refine ar_goto (t := 65) rfl rfl ?_
          exact ar_zret rfl rfl (Or.inr rfl) h
        · have h := hB c_4
          clear hA hB
          refine ar_iload_n (j := 1) (q := 25) rfl rfl rfl rfl ?_
          refine ar_bipush (v := 100) (q := 27) rfl rfl rfl ?_
          obtain ⟨hA, hB⟩ := h
          refine ar_br am_c_eq (t := 60) (q := 30) rfl rfl rfl (fun c_5 => ?_) (fun c_5 => ?_)
          · have h := hA c_5
            clear hA hB
            refine ar_iconst (v := 1) (q := 61) rfl rfl rfl ?_
            refine ar_goto (t := 65) rfl rfl ?_
            exact ar_zret rfl rfl (Or.inr rfl) h
          · have h := hB c_5
            clear hA hB
            refine ar_iload_n (j := 1) (q := 31) rfl rfl rfl rfl ?_
            refine ar_bipush (v := 108) (q := 33) rfl rfl rfl ?_
            obtain ⟨hA, hB⟩ := h
            refine ar_br am_c_eq (t := 60) (q := 36) rfl rfl rfl (fun c_6 => ?_) (fun c_6 => ?_)
            · have h := hA c_6
              clear hA hB
              refine ar_iconst (v := 1) (q := 61) rfl rfl rfl ?_
              refine ar_goto (t := 65) rfl rfl ?_
              exact ar_zret rfl rfl (Or.inr rfl) h
            · have h := hB c_6
              clear hA hB
              refine ar_iload_n (j := 1) (q := 37) rfl rfl rfl rfl ?_
              refine ar_bipush (v := 104) (q := 39) rfl rfl rfl ?_
              obtain ⟨hA, hB⟩ := h
              refine ar_br am_c_eq (t := 60) (q := 42) rfl rfl rfl (fun c_7 => ?_) (fun c_7 => ?_)
              · have h := hA c_7
                clear hA hB
                refine ar_iconst (v := 1) (q := 61) rfl rfl rfl ?_
                refine ar_goto (t := 65) rfl rfl ?_
                exact ar_zret rfl rfl (Or.inr rfl) h
              · have h := hB c_7
                clear hA hB
                refine ar_iload_n (j := 1) (q := 43) rfl rfl rfl rfl ?_
                refine ar_bipush (v := 107) (q := 45) rfl rfl rfl ?_
                obtain ⟨hA, hB⟩ := h
                refine ar_br am_c_eq (t := 60) (q := 48) rfl rfl rfl (fun c_8 => ?_) (fun c_8 => ?_)
                · have h := hA c_8
                  clear hA hB
                  refine ar_iconst (v := 1) (q := 61) rfl rfl rfl ?_
                  refine ar_goto (t := 65) rfl rfl ?_
                  exact ar_zret rfl rfl (Or.inr rfl) h
                · have h := hB c_8
                  clear hA hB
                  refine ar_iload_n (j := 1) (q := 49) rfl rfl rfl rfl ?_
                  refine ar_bipush (v := 121) (q := 51) rfl rfl rfl ?_
                  obtain ⟨hA, hB⟩ := h
                  refine ar_br am_c_eq (t := 60) (q := 54) rfl rfl rfl (fun c_9 => ?_) (fun c_9 => ?_)
                  · have h := hA c_9
                    clear hA hB
                    refine ar_iconst (v := 1) (q := 61) rfl rfl rfl ?_
                    refine ar_goto (t := 65) rfl rfl ?_
                    exact ar_zret rfl rfl (Or.inr rfl) h
                  · have h := hB c_9
                    clear hA hB
                    refine ar_iload_n (j := 1) (q := 55) rfl rfl rfl rfl ?_
                    refine ar_bipush (v := 122) (q := 57) rfl rfl rfl ?_
                    obtain ⟨hA, hB⟩ := h
                    refine ar_br am_c_ne (t := 64) (q := 60) rfl rfl rfl (fun c_10 => ?_) (fun c_10 => ?_)
                    · have h := hB c_10
                      clear hA hB
                      refine ar_iconst (v := 0) (q := 65) rfl rfl rfl ?_
                      exact ar_zret rfl rfl (Or.inl rfl) h
                    · have c_10 := Classical.not_not.mp c_10
                      have h := hA c_10
                      clear hA hB
                      refine ar_iconst (v := 1) (q := 61) rfl rfl rfl ?_
                      refine ar_goto (t := 65) rfl rfl ?_
                      exact ar_zret rfl rfl (Or.inr rfl) h
theorem r_M_isSign_0 {d : Nat} {R : am_R} {I : Nat → Nat → Int32} {L : Nat → Nat → Int64} {x : Int32} (h : ((x = 43 → (R (some (.int 1)) (am_mk I L, 0, 0))) ∧ (¬ x = 43 → (((x = 45 → (R (some (.int 1)) (am_mk I L, 0, 0))) ∧ (¬ x = 45 → (((x = 42 → (R (some (.int 1)) (am_mk I L, 0, 0))) ∧ (¬ x = 42 → (((x = 47 → (R (some (.int 1)) (am_mk I L, 0, 0))) ∧ (¬ x = 47 → (R (some (.int 0)) (am_mk I L, 0, 0)))))))))))))) : am_Run am_X0 (am_meth d) 180 R 0 [some (.ref 113), some (.int x)] [] (am_mk I L, 0, 0) := by
  refine ar_iload_n (j := 1) (q := 1) rfl rfl rfl rfl ?_
  refine ar_bipush (v := 43) (q := 3) rfl rfl rfl ?_
  obtain ⟨hA, hB⟩ := h
  refine ar_br am_c_eq (t := 24) (q := 6) rfl rfl rfl (fun c_1 => ?_) (fun c_1 => ?_)
  · have h := hA c_1
    clear hA hB
    refine ar_iconst (v := 1) (q := 25) rfl rfl rfl ?_
    refine ar_goto (t := 29) rfl rfl ?_
    exact ar_zret rfl rfl (Or.inr rfl) h
  · have h := hB c_1
    clear hA hB
    refine ar_iload_n (j := 1) (q := 7) rfl rfl rfl rfl ?_
    refine ar_bipush (v := 45) (q := 9) rfl rfl rfl ?_
    obtain ⟨hA, hB⟩ := h
    refine ar_br am_c_eq (t := 24) (q := 12) rfl rfl rfl (fun c_2 => ?_) (fun c_2 => ?_)
    · have h := hA c_2
      clear hA hB
      refine ar_iconst (v := 1) (q := 25) rfl rfl rfl ?_
      refine ar_goto (t := 29) rfl rfl ?_
      exact ar_zret rfl rfl (Or.inr rfl) h
    · have h := hB c_2
      clear hA hB
      refine ar_iload_n (j := 1) (q := 13) rfl rfl rfl rfl ?_
      refine ar_bipush (v := 42) (q := 15) rfl rfl rfl ?_
      obtain ⟨hA, hB⟩ := h
      refine ar_br am_c_eq (t := 24) (q := 18) rfl rfl rfl (fun c_3 => ?_) (fun c_3 => ?_)
      · have h := hA c_3
        clear hA hB
        refine ar_iconst (v := 1) (q := 25) rfl rfl rfl ?_
        refine ar_goto (t := 29) rfl rfl ?_
        exact ar_zret rfl rfl (Or.inr rfl) h
      · have h := hB c_3
        clear hA hB
        refine ar_iload_n (j := 1) (q := 19) rfl rfl rfl rfl ?_
        refine ar_bipush (v := 47) (q := 21) rfl rfl rfl ?_
        obtain ⟨hA, hB⟩ := h
        refine ar_br am_c_ne (t := 28) (q := 24) rfl rfl rfl (fun c_4 => ?_) (fun c_4 => ?_)
        · have h := hB c_4
          clear hA hB
          refine ar_iconst (v := 0) (q := 29) rfl rfl rfl ?_
          exact ar_zret rfl rfl (Or.inl rfl) h
        · have c_4 := Classical.not_not.mp c_4
          have h := hA c_4
          clear hA hB
          refine ar_iconst (v := 1) (q := 25) rfl rfl rfl ?_
          refine ar_goto (t := 29) rfl rfl ?_
          exact ar_zret rfl rfl (Or.inr rfl) h
theorem r_M_isRelation_0 {d : Nat} {R : am_R} {I : Nat → Nat → Int32} {L : Nat → Nat → Int64} {x : Int32} (h : ((x = 60 → (R (some (.int 1)) (am_mk I L, 0, 0))) ∧ (¬ x = 60 → (((x = 61 → (R (some (.int 1)) (am_mk I L, 0, 0))) ∧ (¬ x = 61 → (((x = 62 → (R (some (.int 1)) (am_mk I L, 0, 0))) ∧ (¬ x = 62 → (R (some (.int 0)) (am_mk I L, 0, 0))))))))))) : am_Run am_X0 (am_meth d) 181 R 0 [some (.ref 113), some (.int x)] [] (am_mk I L, 0, 0) := by
  refine ar_iload_n (j := 1) (q := 1) rfl rfl rfl rfl ?_
  refine ar_bipush (v := 60) (q := 3) rfl rfl rfl ?_
  obtain ⟨hA, hB⟩ := h
  refine ar_br am_c_eq (t := 18) (q := 6) rfl rfl rfl (fun c_1 => ?_) (fun c_1 => ?_)
  · have h := hA c_1
    clear hA hB
    refine ar_iconst (v := 1) (q := 19) rfl rfl rfl ?_
    refine ar_goto (t := 23) rfl rfl ?_
    exact ar_zret rfl rfl (Or.inr rfl) h
  · have h := hB c_1
    clear hA hB
    refine ar_iload_n (j := 1) (q := 7) rfl rfl rfl rfl ?_
    refine ar_bipush (v := 61) (q := 9) rfl rfl rfl ?_
    obtain ⟨hA, hB⟩ := h
    refine ar_br am_c_eq (t := 18) (q := 12) rfl rfl rfl (fun c_2 => ?_) (fun c_2 => ?_)
    · have h := hA c_2
      clear hA hB
      refine ar_iconst (v := 1) (q := 19) rfl rfl rfl ?_
      refine ar_goto (t := 23) rfl rfl ?_
      exact ar_zret rfl rfl (Or.inr rfl) h
    · have h := hB c_2
      clear hA hB
      refine ar_iload_n (j := 1) (q := 13) rfl rfl rfl rfl ?_
      refine ar_bipush (v := 62) (q := 15) rfl rfl rfl ?_
      obtain ⟨hA, hB⟩ := h
      refine ar_br am_c_ne (t := 22) (q := 18) rfl rfl rfl (fun c_3 => ?_) (fun c_3 => ?_)
      · have h := hB c_3
        clear hA hB
        refine ar_iconst (v := 0) (q := 23) rfl rfl rfl ?_
        exact ar_zret rfl rfl (Or.inl rfl) h
      · have c_3 := Classical.not_not.mp c_3
        have h := hA c_3
        clear hA hB
        refine ar_iconst (v := 1) (q := 19) rfl rfl rfl ?_
        refine ar_goto (t := 23) rfl rfl ?_
        exact ar_zret rfl rfl (Or.inr rfl) h
