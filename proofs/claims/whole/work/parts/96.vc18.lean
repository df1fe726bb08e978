theorem r_Match_weightOfEmptyBeside_0 {d : Nat} {R : am_R} {I : Nat → Nat → Int32} {L : Nat → Nat → Int64} {m : Nat} (h : am_Run am_X0 (am_meth d) 73 R 5 [some (.ref 106), some (.int (nI m)), some (.long (0 : Int64)), none, some (.int 0)] [] (am_mk I L, 0, 0)) : am_Run am_X0 (am_meth d) 73 R 0 [some (.ref 106), some (.int (nI m)), none, none, none] [] (am_mk I L, 0, 0) := by
  refine ar_lconst (v := 0) (q := 1) rfl rfl rfl ?_
  refine ar_lstore_n (j := 2) (ls' := [some (.ref 106), some (.int (nI m)), some (.long (0 : Int64)), none, none]) (q := 2) rfl rfl rfl rfl rfl ?_
  refine ar_iconst (v := 0) (q := 3) rfl rfl rfl ?_
  refine ar_istore (ls' := [some (.ref 106), some (.int (nI m)), some (.long (0 : Int64)), none, some (.int 0)]) (q := 5) rfl rfl rfl rfl ?_
  exact am_Run.weak (ls' := _) (by exact ⟨rfl, ⟨rfl, ⟨rfl, ⟨rfl, trivial⟩⟩⟩⟩) h
theorem r_Match_weightOfEmptyBeside_5 {d : Nat} {R : am_R} {I : Nat → Nat → Int32} {L : Nat → Nat → Int64} {m : Nat} {v : Int64} {p : Nat} (h : (((nI p) < (I 106 9) → ((((((nI m) >>> ((nI p) &&& 31)) &&& 1) = 0 → (p < 6 ∧ (am_Run am_X0 (am_meth d) 73 R 5 [some (.ref 106), some (.int (nI m)), some (.long (v + ((171532242000 : Int64) + ((20 : Int64) * (am_w6 p))))), none, some (.int (nI (p + 1)))] [] (am_mk I L, 0, 0)))) ∧ (¬ (((nI m) >>> ((nI p) &&& 31)) &&& 1) = 0 → (am_Run am_X0 (am_meth d) 73 R 5 [some (.ref 106), some (.int (nI m)), some (.long v), none, some (.int (nI (p + 1)))] [] (am_mk I L, 0, 0)))))) ∧ (¬ (nI p) < (I 106 9) → (R (some (.long v)) (am_mk I L, 0, 0))))) : am_Run am_X0 (am_meth d) 73 R 5 [some (.ref 106), some (.int (nI m)), some (.long v), none, some (.int (nI p))] [] (am_mk I L, 0, 0) := by
  refine ar_iload (q := 7) rfl rfl rfl ?_
  refine ar_aload_n (j := 0) (q := 8) rfl rfl rfl rfl ?_
  refine ar_getf (v := .int (I 106 9)) (q := 11) rfl rfl mk_106 rfl rfl ?_
  obtain ⟨hA, hB⟩ := h
  refine ar_br am_d_ge (t := 46) (q := 14) rfl rfl rfl (fun c_1 => ?_) (fun c_1 => ?_)
  · have h := hB c_1
    clear hA hB
    refine ar_lload_n (j := 2) (q := 47) rfl rfl rfl rfl ?_
    exact ar_lret rfl rfl h
  · have c_1 := Classical.not_not.mp c_1
    have h := hA c_1
    clear hA hB
    refine ar_iload_n (j := 1) (q := 15) rfl rfl rfl rfl ?_
    refine ar_iload (q := 17) rfl rfl rfl ?_
    refine ar_ib (i := .ishr) (z := (nI m) >>> ((nI p) &&& 31)) (q := 18) rfl rfl rfl rfl rfl ?_
    refine ar_iconst (v := 1) (q := 19) rfl rfl rfl ?_
    refine ar_ib (i := .iand) (z := ((nI m) >>> ((nI p) &&& 31)) &&& 1) (q := 20) rfl rfl rfl rfl rfl ?_
    obtain ⟨hA, hB⟩ := h
    refine ar_b0 am_c_ne (t := 40) (q := 23) rfl rfl rfl (fun c_2 => ?_) (fun c_2 => ?_)
    · have h := hB c_2
      clear hA hB
      refine ar_iinc (v := nI (p + 1)) (ls' := [some (.ref 106), some (.int (nI m)), some (.long v), none, some (.int (nI (p + 1)))]) (q := 43) rfl rfl rfl (nI_1 _) rfl rfl ?_
      refine ar_goto (t := 5) rfl rfl ?_
      exact am_Run.weak (ls' := _) (by exact ⟨rfl, ⟨rfl, ⟨rfl, ⟨rfl, trivial⟩⟩⟩⟩) h
    · have c_2 := Classical.not_not.mp c_2
      have h := hA c_2
      clear hA hB
      refine ar_lload_n (j := 2) (q := 24) rfl rfl rfl rfl ?_
      refine ar_ldc2 (v := 171532242000) (q := 27) rfl rfl rfl ?_
      refine ar_ldc2 (v := 20) (q := 30) rfl rfl rfl ?_
      refine ar_gets (q := 33) rfl rfl rfl ?_
      refine ar_iload (q := 35) rfl rfl rfl ?_
      obtain ⟨hx_3, h⟩ := h
      refine ar_laldx (v := am_w6 p) (q := 36) rfl (am_inE rfl hx_3 (by decide)) (am_clE (n := 6) rfl hx_3 (by decide)) rfl ?_
      refine ar_lb (i := .lmul) (z := (20 : Int64) * (am_w6 p)) (q := 37) rfl rfl rfl rfl rfl rfl ?_
      refine ar_lb (i := .ladd) (z := (171532242000 : Int64) + ((20 : Int64) * (am_w6 p))) (q := 38) rfl rfl rfl rfl rfl rfl ?_
      refine ar_lb (i := .ladd) (z := v + ((171532242000 : Int64) + ((20 : Int64) * (am_w6 p)))) (q := 39) rfl rfl rfl rfl rfl rfl ?_
      refine ar_lstore_n (j := 2) (ls' := [some (.ref 106), some (.int (nI m)), some (.long (v + ((171532242000 : Int64) + ((20 : Int64) * (am_w6 p))))), none, some (.int (nI p))]) (q := 40) rfl rfl rfl rfl rfl ?_
      refine ar_iinc (v := nI (p + 1)) (ls' := [some (.ref 106), some (.int (nI m)), some (.long (v + ((171532242000 : Int64) + ((20 : Int64) * (am_w6 p))))), none, some (.int (nI (p + 1)))]) (q := 43) rfl rfl rfl (nI_1 _) rfl rfl ?_
      refine ar_goto (t := 5) rfl rfl ?_
      exact am_Run.weak (ls' := _) (by exact ⟨rfl, ⟨rfl, ⟨rfl, ⟨rfl, trivial⟩⟩⟩⟩) h
theorem r_Match_addKeeperToWays_0 {d : Nat} {R : am_R} {I : Nat → Nat → Int32} {L : Nat → Nat → Int64} {k : Nat} (h : am_Run am_X0 (am_meth d) 72 R 2 [some (.ref 106), some (.int (nI k)), some (.int 0), none, none, none] [] (am_mk I L, 0, 0)) : am_Run am_X0 (am_meth d) 72 R 0 [some (.ref 106), some (.int (nI k)), none, none, none, none] [] (am_mk I L, 0, 0) := by
  refine ar_iconst (v := 0) (q := 1) rfl rfl rfl ?_
  refine ar_istore_n (j := 2) (ls' := [some (.ref 106), some (.int (nI k)), some (.int 0), none, none, none]) (q := 2) rfl rfl rfl rfl rfl ?_
  exact am_Run.weak (ls' := _) (by exact ⟨rfl, ⟨rfl, ⟨rfl, trivial⟩⟩⟩) h
theorem r_Match_addKeeperToWays_2 {d : Nat} {R : am_R} {I : Nat → Nat → Int32} {L : Nat → Nat → Int64} {k : Nat} {p : Nat} (h : (((nI p) < (I 106 9) → (p < 6 ∧ (am_meth d 113 [.ref 99, .int (nI k), .int (I 108 p)] (am_mk I L, 0, 0) (am_ri (fun z_3 I_4 L_5 => ∀ I_6 : Nat → Nat → Int32, I_6 = va_up I_4 111 (upd (I_4 111) p z_3) → (am_Run am_X0 (am_meth d) 72 R 2 [some (.ref 106), some (.int (nI k)), some (.int (nI (p + 1))), none, none, none] [] (am_mk I_6 L_5, 0, 0))))))) ∧ (¬ (nI p) < (I 106 9) → (am_Run am_X0 (am_meth d) 72 R 45 [some (.ref 106), some (.int (nI k)), some (.int ((1 <<< ((I 106 9) &&& 31)) - 1)), none, none, none] [] (am_mk I L, 0, 0))))) : am_Run am_X0 (am_meth d) 72 R 2 [some (.ref 106), some (.int (nI k)), some (.int (nI p)), none, none, none] [] (am_mk I L, 0, 0) := by
  refine ar_iload_n (j := 2) (q := 3) rfl rfl rfl rfl ?_
  refine ar_aload_n (j := 0) (q := 4) rfl rfl rfl rfl ?_
  refine ar_getf (v := .int (I 106 9)) (q := 7) rfl rfl mk_106 rfl rfl ?_
  obtain ⟨hA, hB⟩ := h
  refine ar_br am_d_ge (t := 36) (q := 10) rfl rfl rfl (fun c_1 => ?_) (fun c_1 => ?_)
  · have h := hB c_1
    clear hA hB
    refine ar_iconst (v := 1) (q := 37) rfl rfl rfl ?_
    refine ar_aload_n (j := 0) (q := 38) rfl rfl rfl rfl ?_
    refine ar_getf (v := .int (I 106 9)) (q := 41) rfl rfl mk_106 rfl rfl ?_
    refine ar_ib (i := .ishl) (z := 1 <<< ((I 106 9) &&& 31)) (q := 42) rfl rfl rfl rfl rfl ?_
    refine ar_iconst (v := 1) (q := 43) rfl rfl rfl ?_
    refine ar_ib (i := .isub) (z := (1 <<< ((I 106 9) &&& 31)) - 1) (q := 44) rfl rfl rfl rfl rfl ?_
    refine ar_istore_n (j := 2) (ls' := [some (.ref 106), some (.int (nI k)), some (.int ((1 <<< ((I 106 9) &&& 31)) - 1)), none, none, none]) (q := 45) rfl rfl rfl rfl rfl ?_
    exact am_Run.weak (ls' := _) (by exact ⟨rfl, ⟨rfl, ⟨rfl, trivial⟩⟩⟩) h
  · have c_1 := Classical.not_not.mp c_1
    have h := hA c_1
    clear hA hB
    refine ar_aload_n (j := 0) (q := 11) rfl rfl rfl rfl ?_
    refine ar_getf (v := .ref 111) (q := 14) rfl rfl mk_106 rfl rfl ?_
    refine ar_iload_n (j := 2) (q := 15) rfl rfl rfl rfl ?_
    refine ar_aload_n (j := 0) (q := 16) rfl rfl rfl rfl ?_
    refine ar_getf (v := .ref 99) (q := 19) rfl rfl mk_106 rfl rfl ?_
    refine ar_iload_n (j := 1) (q := 20) rfl rfl rfl rfl ?_
    refine ar_aload_n (j := 0) (q := 21) rfl rfl rfl rfl ?_
    refine ar_getf (v := .ref 108) (q := 24) rfl rfl mk_106 rfl rfl ?_
    refine ar_iload_n (j := 2) (q := 25) rfl rfl rfl rfl ?_
    obtain ⟨hx_2, h⟩ := h
    refine ar_iald (v := I 108 p) (q := 26) rfl mk_108 (am_inE rfl hx_2 (by decide)) (am_clE (n := 6) rfl hx_2 (by decide)) rfl ?_
    refine ar_invv (as := [.int (nI k), .int (I 108 p)]) (rest := [.int (nI p), .ref 111]) (b2 := (0, 0)) (b3 := (0, 0)) (q := 29) rfl rfl rfl rfl mk_99 rfl rfl rfl rfl rfl ?_
    refine am_meth_mono d _ _ _ _ _ (fun v9 m9 h9 => ?_) h
    obtain ⟨z_3, I_4, L_5, rfl, rfl, h⟩ := h9
    show am_Run am_X0 (am_meth d) 72 R 29 [some (.ref 106), some (.int (nI k)), some (.int (nI p)), none, none, none] [.int z_3, .int (nI p), .ref 111] (am_mk I_4 L_5, 0, 0)
    obtain ⟨I_6, hI_7⟩ : ∃ z : Nat → Nat → Int32, z = va_up I_4 111 (upd (I_4 111) p z_3) := ⟨_, rfl⟩
    have h := h I_6 hI_7
    refine ar_iast (hp2 := am_mk I_6 L_5) (q := 30) rfl mk_111 (am_inE rfl hx_2 (by decide)) (by rw [am_clT (n := 6) rfl hx_2 (by decide), hI_7]; exact mk_s111) rfl ?_
    refine ar_iinc (v := nI (p + 1)) (ls' := [some (.ref 106), some (.int (nI k)), some (.int (nI (p + 1))), none, none, none]) (q := 33) rfl rfl rfl (nI_1 _) rfl rfl ?_
    refine ar_goto (t := 2) rfl rfl ?_
    exact am_Run.weak (ls' := _) (by exact ⟨rfl, ⟨rfl, ⟨rfl, trivial⟩⟩⟩) h
theorem r_Match_addKeeperToWays_45 {d : Nat} {R : am_R} {I : Nat → Nat → Int32} {L : Nat → Nat → Int64} {k : Nat} {m : Nat} (h : (((nI m) ≤ 0 → (R none (am_mk I L, 0, 0))) ∧ (¬ (nI m) ≤ 0 → (am_Run am_X0 (am_meth d) 72 R 51 [some (.ref 106), some (.int (nI k)), some (.int (nI m)), some (.int 0), none, none] [] (am_mk I L, 0, 0))))) : am_Run am_X0 (am_meth d) 72 R 45 [some (.ref 106), some (.int (nI k)), some (.int (nI m)), none, none, none] [] (am_mk I L, 0, 0) := by
  refine ar_iload_n (j := 2) (q := 46) rfl rfl rfl rfl ?_
  obtain ⟨hA, hB⟩ := h
  refine ar_b0 am_c_le (t := 141) (q := 49) rfl rfl rfl (fun c_1 => ?_) (fun c_1 => ?_)
  · have h := hA c_1
    clear hA hB
    exact ar_vret rfl rfl h
  · have h := hB c_1
    clear hA hB
    refine ar_iconst (v := 0) (q := 50) rfl rfl rfl ?_
    refine ar_istore_n (j := 3) (ls' := [some (.ref 106), some (.int (nI k)), some (.int (nI m)), some (.int 0), none, none]) (q := 51) rfl rfl rfl rfl rfl ?_
    exact am_Run.weak (ls' := _) (by exact ⟨rfl, ⟨rfl, ⟨rfl, ⟨rfl, trivial⟩⟩⟩⟩) h
theorem r_Match_addKeeperToWays_51 {d : Nat} (hd : 1 ≤ d) {R : am_R} {I : Nat → Nat → Int32} {L : Nat → Nat → Int64} {k : Nat} {m : Nat} {p : Nat} (h : (((nI p) < (I 106 9) → ((((((nI m) >>> ((nI p) &&& 31)) &&& 1) = 0 → (am_Run am_X0 (am_meth d) 72 R 51 [some (.ref 106), some (.int (nI k)), some (.int (nI m)), some (.int (nI (p + 1))), none, none] [] (am_mk I L, 0, 0))) ∧ (¬ (((nI m) >>> ((nI p) &&& 31)) &&& 1) = 0 → ((k < 32) ∧ ((p < 6) ∧ (((am_bt (I 109 p) k = true → (p < 6 ∧ (m < 64 ∧ (∃ j_8 : Nat, j_8 < 64 ∧ (nI m) ^^^ (1 <<< ((nI p) &&& 31)) = nI j_8 ∧ (∀ L_11 : Nat → Nat → Int64, L_11 = va_up L 112 (vp_updL (L 112) m (if (L 112 j_8) + ((((I 111 p : Int32).toInt64) * (85766121 : Int64)) + (((nI k : Int32).toInt64) * (am_w6 p))) < L 112 m then (L 112 j_8) + ((((I 111 p : Int32).toInt64) * (85766121 : Int64)) + (((nI k : Int32).toInt64) * (am_w6 p))) else L 112 m)) → (am_Run am_X0 (am_meth d) 72 R 51 [some (.ref 106), some (.int (nI k)), some (.int (nI m)), some (.int (nI (p + 1))), none, none] [] (am_mk I L_11, 0, 0))))))) ∧ (¬ (am_bt (I 109 p) k = true) → (am_Run am_X0 (am_meth d) 72 R 51 [some (.ref 106), some (.int (nI k)), some (.int (nI m)), some (.int (nI (p + 1))), none, none] [] (am_mk I L, 0, 0))))))))))) ∧ (¬ (nI p) < (I 106 9) → (am_Run am_X0 (am_meth d) 72 R 45 [some (.ref 106), some (.int (nI k)), some (.int ((nI m) + (-1))), none, none, none] [] (am_mk I L, 0, 0))))) : am_Run am_X0 (am_meth d) 72 R 51 [some (.ref 106), some (.int (nI k)), some (.int (nI m)), some (.int (nI p)), none, none] [] (am_mk I L, 0, 0) := by
  refine ar_iload_n (j := 3) (q := 52) rfl rfl rfl rfl ?_
  refine ar_aload_n (j := 0) (q := 53) rfl rfl rfl rfl ?_
  refine ar_getf (v := .int (I 106 9)) (q := 56) rfl rfl mk_106 rfl rfl ?_
  obtain ⟨hA, hB⟩ := h
  refine ar_br am_d_ge (t := 135) (q := 59) rfl rfl rfl (fun c_1 => ?_) (fun c_1 => ?_)
  · have h := hB c_1
    clear hA hB
    refine ar_iinc (v := (nI m) + (-1)) (ls' := [some (.ref 106), some (.int (nI k)), some (.int ((nI m) + (-1))), some (.int (nI p)), none, none]) (q := 138) rfl rfl rfl rfl rfl rfl ?_
    refine ar_goto (t := 45) rfl rfl ?_
    exact am_Run.weak (ls' := _) (by exact ⟨rfl, ⟨rfl, ⟨rfl, trivial⟩⟩⟩) h
  · have c_1 := Classical.not_not.mp c_1
    have h := hA c_1
    clear hA hB
    refine ar_iload_n (j := 2) (q := 60) rfl rfl rfl rfl ?_
    refine ar_iload_n (j := 3) (q := 61) rfl rfl rfl rfl ?_
    refine ar_ib (i := .ishr) (z := (nI m) >>> ((nI p) &&& 31)) (q := 62) rfl rfl rfl rfl rfl ?_
    refine ar_iconst (v := 1) (q := 63) rfl rfl rfl ?_
    refine ar_ib (i := .iand) (z := ((nI m) >>> ((nI p) &&& 31)) &&& 1) (q := 64) rfl rfl rfl rfl rfl ?_
    obtain ⟨hA, hB⟩ := h
    refine ar_b0 am_c_eq (t := 129) (q := 67) rfl rfl rfl (fun c_2 => ?_) (fun c_2 => ?_)
    · have h := hA c_2
      clear hA hB
      refine ar_iinc (v := nI (p + 1)) (ls' := [some (.ref 106), some (.int (nI k)), some (.int (nI m)), some (.int (nI (p + 1))), none, none]) (q := 132) rfl rfl rfl (nI_1 _) rfl rfl ?_
      refine ar_goto (t := 51) rfl rfl ?_
      exact am_Run.weak (ls' := _) (by exact ⟨rfl, ⟨rfl, ⟨rfl, ⟨rfl, trivial⟩⟩⟩⟩) h
    · have h := hB c_2
      clear hA hB
      refine ar_aload_n (j := 0) (q := 68) rfl rfl rfl rfl ?_
      refine ar_iload_n (j := 1) (q := 69) rfl rfl rfl rfl ?_
      refine ar_iload_n (j := 3) (q := 70) rfl rfl rfl rfl ?_
      refine ar_invv (as := [.int (nI k), .int (nI p)]) (rest := []) (b2 := (0, 0)) (b3 := (0, 0)) (q := 73) rfl rfl rfl rfl mk_106 rfl rfl rfl rfl rfl ?_
      obtain ⟨hp_4, h⟩ := h
      obtain ⟨hp_5, h⟩ := h
      obtain ⟨hA, hB⟩ := h
      refine ok_Ma_mayTake (by omega) rfl rfl hp_4 hp_5 (fun c_3 => ?_) (fun c_3 => ?_)
      · have h := hA c_3
        clear hA hB
        show am_Run am_X0 (am_meth d) 72 R 73 [some (.ref 106), some (.int (nI k)), some (.int (nI m)), some (.int (nI p)), none, none] [.int 1] (am_mk I L, 0, 0)
        refine ar_b0 am_c_ne (t := 79) (q := 76) rfl rfl rfl (fun _ => ?_) (fun c9 => absurd (by decide) c9)
        refine ar_aload_n (j := 0) (q := 80) rfl rfl rfl rfl ?_
        refine ar_getf (v := .ref 111) (q := 83) rfl rfl mk_106 rfl rfl ?_
        refine ar_iload_n (j := 3) (q := 84) rfl rfl rfl rfl ?_
        obtain ⟨hx_6, h⟩ := h
        refine ar_iald (v := I 111 p) (q := 85) rfl mk_111 (am_inE rfl hx_6 (by decide)) (am_clE (n := 6) rfl hx_6 (by decide)) rfl ?_
        refine ar_st (i := .i2l) (n := 1) (st' := [.long ((I 111 p : Int32).toInt64)]) (q := 86) rfl rfl rfl rfl ?_
        refine ar_ldc2 (v := 85766121) (q := 89) rfl rfl rfl ?_
        refine ar_lb (i := .lmul) (z := ((I 111 p : Int32).toInt64) * (85766121 : Int64)) (q := 90) rfl rfl rfl rfl rfl rfl ?_
        refine ar_iload_n (j := 1) (q := 91) rfl rfl rfl rfl ?_
        refine ar_st (i := .i2l) (n := 1) (st' := [.long ((nI k : Int32).toInt64), .long (((I 111 p : Int32).toInt64) * (85766121 : Int64))]) (q := 92) rfl rfl rfl rfl ?_
        refine ar_gets (q := 95) rfl rfl rfl ?_
        refine ar_iload_n (j := 3) (q := 96) rfl rfl rfl rfl ?_
        refine ar_laldx (v := am_w6 p) (q := 97) rfl (am_inE rfl hx_6 (by decide)) (am_clE (n := 6) rfl hx_6 (by decide)) rfl ?_
        refine ar_lb (i := .lmul) (z := ((nI k : Int32).toInt64) * (am_w6 p)) (q := 98) rfl rfl rfl rfl rfl rfl ?_
        refine ar_lb (i := .ladd) (z := (((I 111 p : Int32).toInt64) * (85766121 : Int64)) + (((nI k : Int32).toInt64) * (am_w6 p))) (q := 99) rfl rfl rfl rfl rfl rfl ?_
        refine ar_lstore (ls' := [some (.ref 106), some (.int (nI k)), some (.int (nI m)), some (.int (nI p)), some (.long ((((I 111 p : Int32).toInt64) * (85766121 : Int64)) + (((nI k : Int32).toInt64) * (am_w6 p)))), none]) (q := 101) rfl rfl rfl rfl ?_
        refine ar_aload_n (j := 0) (q := 102) rfl rfl rfl rfl ?_
        refine ar_getf (v := .ref 112) (q := 105) rfl rfl mk_106 rfl rfl ?_
        refine ar_iload_n (j := 2) (q := 106) rfl rfl rfl rfl ?_
        refine ar_aload_n (j := 0) (q := 107) rfl rfl rfl rfl ?_
        refine ar_getf (v := .ref 112) (q := 110) rfl rfl mk_106 rfl rfl ?_
        refine ar_iload_n (j := 2) (q := 111) rfl rfl rfl rfl ?_
        obtain ⟨hx_7, h⟩ := h
        refine ar_lald (v := L 112 m) (q := 112) rfl mk_112 (am_inE rfl hx_7 (by decide)) (am_clE (n := 64) rfl hx_7 (by decide)) rfl ?_
        refine ar_aload_n (j := 0) (q := 113) rfl rfl rfl rfl ?_
        refine ar_getf (v := .ref 112) (q := 116) rfl rfl mk_106 rfl rfl ?_
        refine ar_iload_n (j := 2) (q := 117) rfl rfl rfl rfl ?_
        refine ar_iconst (v := 1) (q := 118) rfl rfl rfl ?_
        refine ar_iload_n (j := 3) (q := 119) rfl rfl rfl rfl ?_
        refine ar_ib (i := .ishl) (z := 1 <<< ((nI p) &&& 31)) (q := 120) rfl rfl rfl rfl rfl ?_
        refine ar_ib (i := .ixor) (z := (nI m) ^^^ (1 <<< ((nI p) &&& 31))) (q := 121) rfl rfl rfl rfl rfl ?_
        obtain ⟨j_8, hx_9, hi_10, h⟩ := h
        refine ar_lald (v := L 112 j_8) (q := 122) rfl mk_112 (am_inE hi_10 hx_9 (by decide)) (am_clE (n := 64) hi_10 hx_9 (by decide)) rfl ?_
        refine ar_lload (q := 124) rfl rfl rfl ?_
        refine ar_lb (i := .ladd) (z := (L 112 j_8) + ((((I 111 p : Int32).toInt64) * (85766121 : Int64)) + (((nI k : Int32).toInt64) * (am_w6 p)))) (q := 125) rfl rfl rfl rfl rfl rfl ?_
        refine ar_invs (as := [.long (L 112 m), .long ((L 112 j_8) + ((((I 111 p : Int32).toInt64) * (85766121 : Int64)) + (((nI k : Int32).toInt64) * (am_w6 p))))]) (rest := [.int (nI m), .ref 112]) (b2 := (0, 0)) (b3 := (0, 0)) (q := 128) rfl rfl rfl rfl rfl rfl rfl rfl rfl ?_
        obtain ⟨d9, rfl⟩ : ∃ d9, d = d9 + 1 := ⟨d - 1, by omega⟩
        refine ar_lmin ?_
        show am_Run am_X0 (am_meth (d9 + 1)) 72 R 128 [some (.ref 106), some (.int (nI k)), some (.int (nI m)), some (.int (nI p)), some (.long ((((I 111 p : Int32).toInt64) * (85766121 : Int64)) + (((nI k : Int32).toInt64) * (am_w6 p)))), none] [.long (if (L 112 j_8) + ((((I 111 p : Int32).toInt64) * (85766121 : Int64)) + (((nI k : Int32).toInt64) * (am_w6 p))) < L 112 m then (L 112 j_8) + ((((I 111 p : Int32).toInt64) * (85766121 : Int64)) + (((nI k : Int32).toInt64) * (am_w6 p))) else L 112 m), .int (nI m), .ref 112] (am_mk I L, 0, 0)
        generalize hd9 : d9 + 1 = d at *
        obtain ⟨L_11, hL_12⟩ : ∃ z : Nat → Nat → Int64, z = va_up L 112 (vp_updL (L 112) m (if (L 112 j_8) + ((((I 111 p : Int32).toInt64) * (85766121 : Int64)) + (((nI k : Int32).toInt64) * (am_w6 p))) < L 112 m then (L 112 j_8) + ((((I 111 p : Int32).toInt64) * (85766121 : Int64)) + (((nI k : Int32).toInt64) * (am_w6 p))) else L 112 m)) := ⟨_, rfl⟩
        have h := h L_11 hL_12
        refine ar_last (hp2 := am_mk I L_11) (q := 129) rfl mk_112 (am_inE rfl hx_7 (by decide)) (by rw [am_clT (n := 64) rfl hx_7 (by decide), hL_12]; exact mk_s112) rfl ?_
        refine ar_iinc (v := nI (p + 1)) (ls' := [some (.ref 106), some (.int (nI k)), some (.int (nI m)), some (.int (nI (p + 1))), some (.long ((((I 111 p : Int32).toInt64) * (85766121 : Int64)) + (((nI k : Int32).toInt64) * (am_w6 p)))), none]) (q := 132) rfl rfl rfl (nI_1 _) rfl rfl ?_
        refine ar_goto (t := 51) rfl rfl ?_
        exact am_Run.weak (ls' := _) (by exact ⟨rfl, ⟨rfl, ⟨rfl, ⟨rfl, trivial⟩⟩⟩⟩) h
      · have h := hB c_3
        clear hA hB
        show am_Run am_X0 (am_meth d) 72 R 73 [some (.ref 106), some (.int (nI k)), some (.int (nI m)), some (.int (nI p)), none, none] [.int 0] (am_mk I L, 0, 0)
        refine ar_b0 am_c_ne (t := 79) (q := 76) rfl rfl rfl (fun c9 => absurd (by decide) c9) (fun _ => ?_)
        refine ar_goto (t := 129) rfl rfl ?_
        refine ar_iinc (v := nI (p + 1)) (ls' := [some (.ref 106), some (.int (nI k)), some (.int (nI m)), some (.int (nI (p + 1))), none, none]) (q := 132) rfl rfl rfl (nI_1 _) rfl rfl ?_
        refine ar_goto (t := 51) rfl rfl ?_
        exact am_Run.weak (ls' := _) (by exact ⟨rfl, ⟨rfl, ⟨rfl, ⟨rfl, trivial⟩⟩⟩⟩) h
theorem r_Match_readWay_0 {d : Nat} {R : am_R} {I : Nat → Nat → Int32} {L : Nat → Nat → Int64} {w : Int64} (h : ∀ I_1 : Nat → Nat → Int32, I_1 = va_up I 106 (upd (I 106) 2 0) → (am_Run am_X0 (am_meth d) 74 R 7 [some (.ref 106), some (.long w), none, some (.int 0), none] [] (am_mk I_1 L, 0, 0))) : am_Run am_X0 (am_meth d) 74 R 0 [some (.ref 106), some (.long w), none, none, none] [] (am_mk I L, 0, 0) := by
  refine ar_aload_n (j := 0) (q := 1) rfl rfl rfl rfl ?_
  refine ar_iconst (v := 0) (q := 2) rfl rfl rfl ?_
  obtain ⟨I_1, hI_2⟩ : ∃ z : Nat → Nat → Int32, z = va_up I 106 (upd (I 106) 2 0) := ⟨_, rfl⟩
  have h := h I_1 hI_2
  refine ar_putf (hp2 := am_mk I_1 L) (q := 5) rfl rfl mk_106 rfl (by rw [hI_2]; exact mk_p106_2) rfl ?_
  refine ar_iconst (v := 0) (q := 6) rfl rfl rfl ?_
  refine ar_istore_n (j := 3) (ls' := [some (.ref 106), some (.long w), none, some (.int 0), none]) (q := 7) rfl rfl rfl rfl rfl ?_
  exact am_Run.weak (ls' := _) (by exact ⟨rfl, ⟨rfl, ⟨rfl, trivial⟩⟩⟩) h
theorem r_Match_readWay_7 {d : Nat} {R : am_R} {I : Nat → Nat → Int32} {L : Nat → Nat → Int64} {w : Int64} {p : Nat} (h : (((nI p) < (I 106 9) → (p < 6 ∧ (¬ am_w6 p = 0 ∧ ((((((w / (am_w6 p)) - (w / (am_w6 p)) / (21 : Int64) * (21 : Int64) : Int64).toInt32) = 20 → (∀ I_5 : Nat → Nat → Int32, I_5 = va_up I 107 (upd (I 107) p (-9 : Int32)) → ((((I_5 107 p) = (-9 : Int32) → (am_Run am_X0 (am_meth d) 74 R 7 [some (.ref 106), some (.long w), none, some (.int (nI (p + 1))), none] [] (am_mk I_5 L, 0, 0))) ∧ (¬ (I_5 107 p) = (-9 : Int32) → (∀ I_8 : Nat → Nat → Int32, I_8 = va_up I_5 106 (upd (I_5 106) 2 ((I_5 106 2) + 1)) → (am_Run am_X0 (am_meth d) 74 R 7 [some (.ref 106), some (.long w), none, some (.int (nI (p + 1))), none] [] (am_mk I_8 L, 0, 0)))))))) ∧ (¬ (((w / (am_w6 p)) - (w / (am_w6 p)) / (21 : Int64) * (21 : Int64) : Int64).toInt32) = 20 → (∀ I_10 : Nat → Nat → Int32, I_10 = va_up I 107 (upd (I 107) p (((w / (am_w6 p)) - (w / (am_w6 p)) / (21 : Int64) * (21 : Int64) : Int64).toInt32)) → ((((I_10 107 p) = (-9 : Int32) → (am_Run am_X0 (am_meth d) 74 R 7 [some (.ref 106), some (.long w), none, some (.int (nI (p + 1))), none] [] (am_mk I_10 L, 0, 0))) ∧ (¬ (I_10 107 p) = (-9 : Int32) → (∀ I_13 : Nat → Nat → Int32, I_13 = va_up I_10 106 (upd (I_10 106) 2 ((I_10 106 2) + 1)) → (am_Run am_X0 (am_meth d) 74 R 7 [some (.ref 106), some (.long w), none, some (.int (nI (p + 1))), none] [] (am_mk I_13 L, 0, 0))))))))))))) ∧ (¬ (nI p) < (I 106 9) → (∀ I_15 : Nat → Nat → Int32, I_15 = va_up I 106 (upd (I 106) 1 (((w / (85766121 : Int64)) - (w / (85766121 : Int64)) / (2000 : Int64) * (2000 : Int64) : Int64).toInt32)) → (R none (am_mk I_15 L, 0, 0)))))) : am_Run am_X0 (am_meth d) 74 R 7 [some (.ref 106), some (.long w), none, some (.int (nI p)), none] [] (am_mk I L, 0, 0) := by
  refine ar_iload_n (j := 3) (q := 8) rfl rfl rfl rfl ?_
  refine ar_aload_n (j := 0) (q := 9) rfl rfl rfl rfl ?_
  refine ar_getf (v := .int (I 106 9)) (q := 12) rfl rfl mk_106 rfl rfl ?_
  obtain ⟨hA, hB⟩ := h
  refine ar_br am_d_ge (t := 76) (q := 15) rfl rfl rfl (fun c_1 => ?_) (fun c_1 => ?_)
  · have h := hB c_1
    clear hA hB
    refine ar_aload_n (j := 0) (q := 77) rfl rfl rfl rfl ?_
    refine ar_lload_n (j := 1) (q := 78) rfl rfl rfl rfl ?_
    refine ar_ldc2 (v := 85766121) (q := 81) rfl rfl rfl ?_
    refine ar_ldiv (q := 82) rfl (by decide) rfl ?_
    refine ar_ldc2 (v := 2000) (q := 85) rfl rfl rfl ?_
    refine ar_lrem (q := 86) rfl (by decide) rfl ?_
    refine ar_st (i := .l2i) (n := 1) (st' := [.int (((w / (85766121 : Int64)) - (w / (85766121 : Int64)) / (2000 : Int64) * (2000 : Int64) : Int64).toInt32), .ref 106]) (q := 87) rfl rfl rfl rfl ?_
    obtain ⟨I_15, hI_16⟩ : ∃ z : Nat → Nat → Int32, z = va_up I 106 (upd (I 106) 1 (((w / (85766121 : Int64)) - (w / (85766121 : Int64)) / (2000 : Int64) * (2000 : Int64) : Int64).toInt32)) := ⟨_, rfl⟩
    have h := h I_15 hI_16
    refine ar_putf (hp2 := am_mk I_15 L) (q := 90) rfl rfl mk_106 rfl (by rw [hI_16]; exact mk_p106_1) rfl ?_
    exact ar_vret rfl rfl h
  · have c_1 := Classical.not_not.mp c_1
    have h := hA c_1
    clear hA hB
    refine ar_lload_n (j := 1) (q := 16) rfl rfl rfl rfl ?_
    refine ar_gets (q := 19) rfl rfl rfl ?_
    refine ar_iload_n (j := 3) (q := 20) rfl rfl rfl rfl ?_
    obtain ⟨hx_2, h⟩ := h
    refine ar_laldx (v := am_w6 p) (q := 21) rfl (am_inE rfl hx_2 (by decide)) (am_clE (n := 6) rfl hx_2 (by decide)) rfl ?_
    obtain ⟨hz_3, h⟩ := h
    refine ar_ldiv (q := 22) rfl hz_3 rfl ?_
    refine ar_ldc2 (v := 21) (q := 25) rfl rfl rfl ?_
    refine ar_lrem (q := 26) rfl (by decide) rfl ?_
    refine ar_st (i := .l2i) (n := 1) (st' := [.int (((w / (am_w6 p)) - (w / (am_w6 p)) / (21 : Int64) * (21 : Int64) : Int64).toInt32)]) (q := 27) rfl rfl rfl rfl ?_
    refine ar_istore (ls' := [some (.ref 106), some (.long w), none, some (.int (nI p)), some (.int (((w / (am_w6 p)) - (w / (am_w6 p)) / (21 : Int64) * (21 : Int64) : Int64).toInt32))]) (q := 29) rfl rfl rfl rfl ?_
    refine ar_aload_n (j := 0) (q := 30) rfl rfl rfl rfl ?_
    refine ar_getf (v := .ref 107) (q := 33) rfl rfl mk_106 rfl rfl ?_
    refine ar_iload_n (j := 3) (q := 34) rfl rfl rfl rfl ?_
    refine ar_iload (q := 36) rfl rfl rfl ?_
    refine ar_bipush (v := 20) (q := 38) rfl rfl rfl ?_
    obtain ⟨hA, hB⟩ := h
    refine ar_br am_c_ne (t := 46) (q := 41) rfl rfl rfl (fun c_4 => ?_) (fun c_4 => ?_)
    · have h := hB c_4
      clear hA hB
      refine ar_iload (q := 48) rfl rfl rfl ?_
      obtain ⟨I_10, hI_11⟩ : ∃ z : Nat → Nat → Int32, z = va_up I 107 (upd (I 107) p (((w / (am_w6 p)) - (w / (am_w6 p)) / (21 : Int64) * (21 : Int64) : Int64).toInt32)) := ⟨_, rfl⟩
      have h := h I_10 hI_11
      refine ar_iast (hp2 := am_mk I_10 L) (q := 49) rfl mk_107 (am_inE rfl hx_2 (by decide)) (by rw [am_clT (n := 6) rfl hx_2 (by decide), hI_11]; exact mk_s107) rfl ?_
      refine ar_aload_n (j := 0) (q := 50) rfl rfl rfl rfl ?_
      refine ar_getf (v := .ref 107) (q := 53) rfl rfl mk_106 rfl rfl ?_
      refine ar_iload_n (j := 3) (q := 54) rfl rfl rfl rfl ?_
      refine ar_iald (v := I_10 107 p) (q := 55) rfl mk_107 (am_inE rfl hx_2 (by decide)) (am_clE (n := 6) rfl hx_2 (by decide)) rfl ?_
      refine ar_bipush (v := (-9 : Int32)) (q := 57) rfl rfl rfl ?_
      obtain ⟨hA, hB⟩ := h
      refine ar_br am_c_eq (t := 70) (q := 60) rfl rfl rfl (fun c_12 => ?_) (fun c_12 => ?_)
      · have h := hA c_12
        clear hA hB
        refine ar_iinc (v := nI (p + 1)) (ls' := [some (.ref 106), some (.long w), none, some (.int (nI (p + 1))), some (.int (((w / (am_w6 p)) - (w / (am_w6 p)) / (21 : Int64) * (21 : Int64) : Int64).toInt32))]) (q := 73) rfl rfl rfl (nI_1 _) rfl rfl ?_
        refine ar_goto (t := 7) rfl rfl ?_
        exact am_Run.weak (ls' := _) (by exact ⟨rfl, ⟨rfl, ⟨rfl, trivial⟩⟩⟩) h
      · have h := hB c_12
        clear hA hB
        refine ar_aload_n (j := 0) (q := 61) rfl rfl rfl rfl ?_
        refine ar_st (i := .dup) (n := 1) (st' := [.ref 106, .ref 106]) (q := 62) rfl rfl rfl rfl ?_
        refine ar_getf (v := .int (I_10 106 2)) (q := 65) rfl rfl mk_106 rfl rfl ?_
        refine ar_iconst (v := 1) (q := 66) rfl rfl rfl ?_
        refine ar_ib (i := .iadd) (z := (I_10 106 2) + 1) (q := 67) rfl rfl rfl rfl rfl ?_
        obtain ⟨I_13, hI_14⟩ : ∃ z : Nat → Nat → Int32, z = va_up I_10 106 (upd (I_10 106) 2 ((I_10 106 2) + 1)) := ⟨_, rfl⟩
        have h := h I_13 hI_14
        refine ar_putf (hp2 := am_mk I_13 L) (q := 70) rfl rfl mk_106 rfl (by rw [hI_14]; exact mk_p106_2) rfl ?_
        refine ar_iinc (v := nI (p + 1)) (ls' := [some (.ref 106), some (.long w), none, some (.int (nI (p + 1))), some (.int (((w / (am_w6 p)) - (w / (am_w6 p)) / (21 : Int64) * (21 : Int64) : Int64).toInt32))]) (q := 73) rfl rfl rfl (nI_1 _) rfl rfl ?_
        refine ar_goto (t := 7) rfl rfl ?_
        exact am_Run.weak (ls' := _) (by exact ⟨rfl, ⟨rfl, ⟨rfl, trivial⟩⟩⟩) h
    · have c_4 := Classical.not_not.mp c_4
      have h := hA c_4
      clear hA hB
      refine ar_bipush (v := (-9 : Int32)) (q := 43) rfl rfl rfl ?_
      refine ar_goto (t := 48) rfl rfl ?_
      obtain ⟨I_5, hI_6⟩ : ∃ z : Nat → Nat → Int32, z = va_up I 107 (upd (I 107) p (-9 : Int32)) := ⟨_, rfl⟩
      have h := h I_5 hI_6
      refine ar_iast (hp2 := am_mk I_5 L) (q := 49) rfl mk_107 (am_inE rfl hx_2 (by decide)) (by rw [am_clT (n := 6) rfl hx_2 (by decide), hI_6]; exact mk_s107) rfl ?_
      refine ar_aload_n (j := 0) (q := 50) rfl rfl rfl rfl ?_
      refine ar_getf (v := .ref 107) (q := 53) rfl rfl mk_106 rfl rfl ?_
      refine ar_iload_n (j := 3) (q := 54) rfl rfl rfl rfl ?_
      refine ar_iald (v := I_5 107 p) (q := 55) rfl mk_107 (am_inE rfl hx_2 (by decide)) (am_clE (n := 6) rfl hx_2 (by decide)) rfl ?_
      refine ar_bipush (v := (-9 : Int32)) (q := 57) rfl rfl rfl ?_
      obtain ⟨hA, hB⟩ := h
      refine ar_br am_c_eq (t := 70) (q := 60) rfl rfl rfl (fun c_7 => ?_) (fun c_7 => ?_)
      · have h := hA c_7
        clear hA hB
        refine ar_iinc (v := nI (p + 1)) (ls' := [some (.ref 106), some (.long w), none, some (.int (nI (p + 1))), some (.int (((w / (am_w6 p)) - (w / (am_w6 p)) / (21 : Int64) * (21 : Int64) : Int64).toInt32))]) (q := 73) rfl rfl rfl (nI_1 _) rfl rfl ?_
        refine ar_goto (t := 7) rfl rfl ?_
        exact am_Run.weak (ls' := _) (by exact ⟨rfl, ⟨rfl, ⟨rfl, trivial⟩⟩⟩) h
      · have h := hB c_7
        clear hA hB
        refine ar_aload_n (j := 0) (q := 61) rfl rfl rfl rfl ?_
        refine ar_st (i := .dup) (n := 1) (st' := [.ref 106, .ref 106]) (q := 62) rfl rfl rfl rfl ?_
        refine ar_getf (v := .int (I_5 106 2)) (q := 65) rfl rfl mk_106 rfl rfl ?_
        refine ar_iconst (v := 1) (q := 66) rfl rfl rfl ?_
        refine ar_ib (i := .iadd) (z := (I_5 106 2) + 1) (q := 67) rfl rfl rfl rfl rfl ?_
        obtain ⟨I_8, hI_9⟩ : ∃ z : Nat → Nat → Int32, z = va_up I_5 106 (upd (I_5 106) 2 ((I_5 106 2) + 1)) := ⟨_, rfl⟩
        have h := h I_8 hI_9
        refine ar_putf (hp2 := am_mk I_8 L) (q := 70) rfl rfl mk_106 rfl (by rw [hI_9]; exact mk_p106_2) rfl ?_
        refine ar_iinc (v := nI (p + 1)) (ls' := [some (.ref 106), some (.long w), none, some (.int (nI (p + 1))), some (.int (((w / (am_w6 p)) - (w / (am_w6 p)) / (21 : Int64) * (21 : Int64) : Int64).toInt32))]) (q := 73) rfl rfl rfl (nI_1 _) rfl rfl ?_
        refine ar_goto (t := 7) rfl rfl ?_
        exact am_Run.weak (ls' := _) (by exact ⟨rfl, ⟨rfl, ⟨rfl, trivial⟩⟩⟩) h
theorem r_Match_makePlaces_0 {d : Nat} {R : am_R} {I : Nat → Nat → Int32} {L : Nat → Nat → Int64}  (h : am_meth d 243 [.ref 112, .long (17153224200000 : Int64)] (am_mk I L, 0, 0) (am_rv (fun I_1 L_2 => ∀ L_3 : Nat → Nat → Int64, L_3 = va_up L_2 112 (vp_updL (L_2 112) 0 (0 : Int64)) → (am_Run am_X0 (am_meth d) 71 R 19 [some (.ref 106), some (.int 0), none, none] [] (am_mk I_1 L_3, 0, 0))))) : am_Run am_X0 (am_meth d) 71 R 0 [some (.ref 106), none, none, none] [] (am_mk I L, 0, 0) := by
  refine ar_aload_n (j := 0) (q := 1) rfl rfl rfl rfl ?_
  refine ar_getf (v := .ref 112) (q := 4) rfl rfl mk_106 rfl rfl ?_
  refine ar_ldc2 (v := 17153224200000) (q := 7) rfl rfl rfl ?_
  refine ar_invs (as := [.ref 112, .long (17153224200000 : Int64)]) (rest := []) (b2 := (0, 0)) (b3 := (0, 0)) (q := 10) rfl rfl rfl rfl rfl rfl rfl rfl rfl ?_
  refine am_meth_mono d _ _ _ _ _ (fun v9 m9 h9 => ?_) h
  obtain ⟨I_1, L_2, rfl, rfl, h⟩ := h9
  show am_Run am_X0 (am_meth d) 71 R 10 [some (.ref 106), none, none, none] [] (am_mk I_1 L_2, 0, 0)
  refine ar_aload_n (j := 0) (q := 11) rfl rfl rfl rfl ?_
  refine ar_getf (v := .ref 112) (q := 14) rfl rfl mk_106 rfl rfl ?_
  refine ar_iconst (v := 0) (q := 15) rfl rfl rfl ?_
  refine ar_lconst (v := 0) (q := 16) rfl rfl rfl ?_
  obtain ⟨L_3, hL_4⟩ : ∃ z : Nat → Nat → Int64, z = va_up L_2 112 (vp_updL (L_2 112) 0 (0 : Int64)) := ⟨_, rfl⟩
  have h := h L_3 hL_4
  refine ar_last (hp2 := am_mk I_1 L_3) (q := 17) rfl mk_112 (am_inE rfl (by decide) (by decide)) (by rw [hL_4]; exact mk_s112) rfl ?_
  refine ar_iconst (v := 0) (q := 18) rfl rfl rfl ?_
  refine ar_istore_n (j := 1) (ls' := [some (.ref 106), some (.int 0), none, none]) (q := 19) rfl rfl rfl rfl rfl ?_
  exact am_Run.weak (ls' := _) (by exact ⟨rfl, ⟨rfl, trivial⟩⟩) h
theorem r_Match_makePlaces_19 {d : Nat} {R : am_R} {I : Nat → Nat → Int32} {L : Nat → Nat → Int64} {k : Nat} (h : (((nI k) < (I 16 0) → (am_meth d 72 [.ref 106, .int (nI k)] (am_mk I L, 0, 0) (am_rv (fun I_2 L_3 => am_Run am_X0 (am_meth d) 71 R 19 [some (.ref 106), some (.int (nI (k + 1))), none, none] [] (am_mk I_2 L_3, 0, 0))))) ∧ (¬ (nI k) < (I 16 0) → (am_Run am_X0 (am_meth d) 71 R 47 [some (.ref 106), some (.long (17153224200000 : Int64)), none, some (.int 0)] [] (am_mk I L, 0, 0))))) : am_Run am_X0 (am_meth d) 71 R 19 [some (.ref 106), some (.int (nI k)), none, none] [] (am_mk I L, 0, 0) := by
  refine ar_iload_n (j := 1) (q := 20) rfl rfl rfl rfl ?_
  refine ar_aload_n (j := 0) (q := 21) rfl rfl rfl rfl ?_
  refine ar_getf (v := .ref 16) (q := 24) rfl rfl mk_106 rfl rfl ?_
  refine ar_getf (v := .int (I 16 0)) (q := 27) rfl rfl mk_16 rfl rfl ?_
  obtain ⟨hA, hB⟩ := h
  refine ar_br am_d_ge (t := 41) (q := 30) rfl rfl rfl (fun c_1 => ?_) (fun c_1 => ?_)
  · have h := hB c_1
    clear hA hB
    refine ar_ldc2 (v := 17153224200000) (q := 44) rfl rfl rfl ?_
    refine ar_lstore_n (j := 1) (ls' := [some (.ref 106), some (.long (17153224200000 : Int64)), none, none]) (q := 45) rfl rfl rfl rfl rfl ?_
    refine ar_iconst (v := 0) (q := 46) rfl rfl rfl ?_
    refine ar_istore_n (j := 3) (ls' := [some (.ref 106), some (.long (17153224200000 : Int64)), none, some (.int 0)]) (q := 47) rfl rfl rfl rfl rfl ?_
    exact am_Run.weak (ls' := _) (by exact ⟨rfl, ⟨rfl, ⟨rfl, trivial⟩⟩⟩) h
  · have c_1 := Classical.not_not.mp c_1
    have h := hA c_1
    clear hA hB
    refine ar_aload_n (j := 0) (q := 31) rfl rfl rfl rfl ?_
    refine ar_iload_n (j := 1) (q := 32) rfl rfl rfl rfl ?_
    refine ar_invv (as := [.int (nI k)]) (rest := []) (b2 := (0, 0)) (b3 := (0, 0)) (q := 35) rfl rfl rfl rfl mk_106 rfl rfl rfl rfl rfl ?_
    refine am_meth_mono d _ _ _ _ _ (fun v9 m9 h9 => ?_) h
    obtain ⟨I_2, L_3, rfl, rfl, h⟩ := h9
    show am_Run am_X0 (am_meth d) 71 R 35 [some (.ref 106), some (.int (nI k)), none, none] [] (am_mk I_2 L_3, 0, 0)
    refine ar_iinc (v := nI (k + 1)) (ls' := [some (.ref 106), some (.int (nI (k + 1))), none, none]) (q := 38) rfl rfl rfl (nI_1 _) rfl rfl ?_
    refine ar_goto (t := 19) rfl rfl ?_
    exact am_Run.weak (ls' := _) (by exact ⟨rfl, ⟨rfl, trivial⟩⟩) h
theorem r_Match_makePlaces_47 {d : Nat} (hd : 1 ≤ d) {R : am_R} {I : Nat → Nat → Int32} {L : Nat → Nat → Int64} {v : Int64} {m : Nat} (h : (((nI m) < (1 <<< ((I 106 9) &&& 31)) → (m < 64 ∧ (am_meth d 73 [.ref 106, .int (nI m)] (am_mk I L, 0, 0) (am_rl (fun z_3 I_4 L_5 => am_Run am_X0 (am_meth d) 71 R 47 [some (.ref 106), some (.long (if (L 112 m) + z_3 < v then (L 112 m) + z_3 else v)), none, some (.int (nI (m + 1)))] [] (am_mk I_4 L_5, 0, 0)))))) ∧ (¬ (nI m) < (1 <<< ((I 106 9) &&& 31)) → (am_meth d 74 [.ref 106, .long v] (am_mk I L, 0, 0) (am_rv (fun I_6 L_7 => R none (am_mk I_6 L_7, 0, 0))))))) : am_Run am_X0 (am_meth d) 71 R 47 [some (.ref 106), some (.long v), none, some (.int (nI m))] [] (am_mk I L, 0, 0) := by
  refine ar_iload_n (j := 3) (q := 48) rfl rfl rfl rfl ?_
  refine ar_iconst (v := 1) (q := 49) rfl rfl rfl ?_
  refine ar_aload_n (j := 0) (q := 50) rfl rfl rfl rfl ?_
  refine ar_getf (v := .int (I 106 9)) (q := 53) rfl rfl mk_106 rfl rfl ?_
  refine ar_ib (i := .ishl) (z := 1 <<< ((I 106 9) &&& 31)) (q := 54) rfl rfl rfl rfl rfl ?_
  obtain ⟨hA, hB⟩ := h
  refine ar_br am_d_ge (t := 80) (q := 57) rfl rfl rfl (fun c_1 => ?_) (fun c_1 => ?_)
  · have h := hB c_1
    clear hA hB
    refine ar_aload_n (j := 0) (q := 81) rfl rfl rfl rfl ?_
    refine ar_lload_n (j := 1) (q := 82) rfl rfl rfl rfl ?_
    refine ar_invv (as := [.long v]) (rest := []) (b2 := (0, 0)) (b3 := (0, 0)) (q := 85) rfl rfl rfl rfl mk_106 rfl rfl rfl rfl rfl ?_
    refine am_meth_mono d _ _ _ _ _ (fun v9 m9 h9 => ?_) h
    obtain ⟨I_6, L_7, rfl, rfl, h⟩ := h9
    show am_Run am_X0 (am_meth d) 71 R 85 [some (.ref 106), some (.long v), none, some (.int (nI m))] [] (am_mk I_6 L_7, 0, 0)
    exact ar_vret rfl rfl h
  · have c_1 := Classical.not_not.mp c_1
    have h := hA c_1
    clear hA hB
    refine ar_lload_n (j := 1) (q := 58) rfl rfl rfl rfl ?_
    refine ar_aload_n (j := 0) (q := 59) rfl rfl rfl rfl ?_
    refine ar_getf (v := .ref 112) (q := 62) rfl rfl mk_106 rfl rfl ?_
    refine ar_iload_n (j := 3) (q := 63) rfl rfl rfl rfl ?_
    obtain ⟨hx_2, h⟩ := h
    refine ar_lald (v := L 112 m) (q := 64) rfl mk_112 (am_inE rfl hx_2 (by decide)) (am_clE (n := 64) rfl hx_2 (by decide)) rfl ?_
    refine ar_aload_n (j := 0) (q := 65) rfl rfl rfl rfl ?_
    refine ar_iload_n (j := 3) (q := 66) rfl rfl rfl rfl ?_
    refine ar_invv (as := [.int (nI m)]) (rest := [.long (L 112 m), .long v]) (b2 := (0, 0)) (b3 := (0, 0)) (q := 69) rfl rfl rfl rfl mk_106 rfl rfl rfl rfl rfl ?_
    refine am_meth_mono d _ _ _ _ _ (fun v9 m9 h9 => ?_) h
    obtain ⟨z_3, I_4, L_5, rfl, rfl, h⟩ := h9
    show am_Run am_X0 (am_meth d) 71 R 69 [some (.ref 106), some (.long v), none, some (.int (nI m))] [.long z_3, .long (L 112 m), .long v] (am_mk I_4 L_5, 0, 0)
    refine ar_lb (i := .ladd) (z := (L 112 m) + z_3) (q := 70) rfl rfl rfl rfl rfl rfl ?_
    refine ar_invs (as := [.long v, .long ((L 112 m) + z_3)]) (rest := []) (b2 := (0, 0)) (b3 := (0, 0)) (q := 73) rfl rfl rfl rfl rfl rfl rfl rfl rfl ?_
    obtain ⟨d9, rfl⟩ : ∃ d9, d = d9 + 1 := ⟨d - 1, by omega⟩
    refine ar_lmin ?_
    show am_Run am_X0 (am_meth (d9 + 1)) 71 R 73 [some (.ref 106), some (.long v), none, some (.int (nI m))] [.long (if (L 112 m) + z_3 < v then (L 112 m) + z_3 else v)] (am_mk I_4 L_5, 0, 0)
    generalize hd9 : d9 + 1 = d at *
    refine ar_lstore_n (j := 1) (ls' := [some (.ref 106), some (.long (if (L 112 m) + z_3 < v then (L 112 m) + z_3 else v)), none, some (.int (nI m))]) (q := 74) rfl rfl rfl rfl rfl ?_
    refine ar_iinc (v := nI (m + 1)) (ls' := [some (.ref 106), some (.long (if (L 112 m) + z_3 < v then (L 112 m) + z_3 else v)), none, some (.int (nI (m + 1)))]) (q := 77) rfl rfl rfl (nI_1 _) rfl rfl ?_
    refine ar_goto (t := 47) rfl rfl ?_
    exact am_Run.weak (ls' := _) (by exact ⟨rfl, ⟨rfl, ⟨rfl, trivial⟩⟩⟩) h
theorem r_H_place_0 {d : Nat} {R : am_R} {I : Nat → Nat → Int32} {L : Nat → Nat → Int64} {x : Int32} (h : am_meth d 32 [.ref 0] (am_mk I L, 0, 0) (am_ri (fun z_1 I_2 L_3 => ((z_1 = 0 → (((x < 0 → (((x = 10 → (am_meth d 60 [.ref 106, .ref 95] (am_mk I_2 L_3, 0, 0) (am_rv (fun I_7 L_8 => am_meth d 71 [.ref 106] (am_mk I_7 L_8, 0, 0) (am_rv (fun I_9 L_10 => R (some (.int (I_9 106 1))) (am_mk I_9 L_10, 0, 0))))))) ∧ (¬ x = 10 → (((x = 11 → (am_meth d 60 [.ref 106, .ref 95] (am_mk I_2 L_3, 0, 0) (am_rv (fun I_12 L_13 => am_meth d 71 [.ref 106] (am_mk I_12 L_13, 0, 0) (am_rv (fun I_14 L_15 => R (some (.int (I_14 106 2))) (am_mk I_14 L_15, 0, 0))))))) ∧ (¬ x = 11 → (am_meth d 2 [.ref 0, .int (-2 : Int32)] (am_mk I_2 L_3, 0, 0) (am_ri (fun z_16 I_17 L_18 => R (some (.int z_16)) (am_mk I_17 L_18, 0, 0))))))))))) ∧ (¬ x < 0 → (((x < (I_2 95 0) → (am_meth d 60 [.ref 106, .ref 95] (am_mk I_2 L_3, 0, 0) (am_rv (fun I_20 L_21 => am_meth d 71 [.ref 106] (am_mk I_20 L_21, 0, 0) (am_rv (fun I_22 L_23 => ∃ j_24 : Nat, j_24 < 6 ∧ x = nI j_24 ∧ (R (some (.int (I_22 107 j_24))) (am_mk I_22 L_23, 0, 0)))))))) ∧ (¬ x < (I_2 95 0) → (((x = 10 → (am_meth d 60 [.ref 106, .ref 95] (am_mk I_2 L_3, 0, 0) (am_rv (fun I_28 L_29 => am_meth d 71 [.ref 106] (am_mk I_28 L_29, 0, 0) (am_rv (fun I_30 L_31 => R (some (.int (I_30 106 1))) (am_mk I_30 L_31, 0, 0))))))) ∧ (¬ x = 10 → (((x = 11 → (am_meth d 60 [.ref 106, .ref 95] (am_mk I_2 L_3, 0, 0) (am_rv (fun I_33 L_34 => am_meth d 71 [.ref 106] (am_mk I_33 L_34, 0, 0) (am_rv (fun I_35 L_36 => R (some (.int (I_35 106 2))) (am_mk I_35 L_36, 0, 0))))))) ∧ (¬ x = 11 → (am_meth d 2 [.ref 0, .int (-2 : Int32)] (am_mk I_2 L_3, 0, 0) (am_ri (fun z_37 I_38 L_39 => R (some (.int z_37)) (am_mk I_38 L_39, 0, 0))))))))))))))))) ∧ (¬ z_1 = 0 → (am_meth d 2 [.ref 0, .int z_1] (am_mk I_2 L_3, 0, 0) (am_ri (fun z_40 I_41 L_42 => R (some (.int z_40)) (am_mk I_41 L_42, 0, 0))))))))) : am_Run am_X0 (am_meth d) 36 R 0 [some (.ref 0), some (.int x), none, none] [] (am_mk I L, 0, 0) := by
  refine ar_aload_n (j := 0) (q := 1) rfl rfl rfl rfl ?_
  refine ar_invv (as := []) (rest := []) (b2 := (0, 0)) (b3 := (0, 0)) (q := 4) rfl rfl rfl rfl mk_0 rfl rfl rfl rfl rfl ?_
  refine am_meth_mono d _ _ _ _ _ (fun v9 m9 h9 => ?_) h
  obtain ⟨z_1, I_2, L_3, rfl, rfl, h⟩ := h9
  show am_Run am_X0 (am_meth d) 36 R 4 [some (.ref 0), some (.int x), none, none] [.int z_1] (am_mk I_2 L_3, 0, 0)
  refine ar_istore_n (j := 2) (ls' := [some (.ref 0), some (.int x), some (.int z_1), none]) (q := 5) rfl rfl rfl rfl rfl ?_
  refine ar_iload_n (j := 2) (q := 6) rfl rfl rfl rfl ?_
  obtain ⟨hA, hB⟩ := h
  refine ar_b0 am_c_eq (t := 15) (q := 9) rfl rfl rfl (fun c_4 => ?_) (fun c_4 => ?_)
  · have h := hA c_4
    clear hA hB
    refine ar_iload_n (j := 1) (q := 16) rfl rfl rfl rfl ?_
    obtain ⟨hA, hB⟩ := h
    refine ar_b0 am_c_lt (t := 34) (q := 19) rfl rfl rfl (fun c_5 => ?_) (fun c_5 => ?_)
    · have h := hA c_5
      clear hA hB
      refine ar_iconst (v := 0) (q := 35) rfl rfl rfl ?_
      refine ar_istore_n (j := 3) (ls' := [some (.ref 0), some (.int x), some (.int z_1), some (.int 0)]) (q := 36) rfl rfl rfl rfl rfl ?_
      refine ar_iload_n (j := 3) (q := 37) rfl rfl rfl rfl ?_
      refine ar_b0 am_c_ne (t := 59) (q := 40) rfl rfl rfl (fun c9 => absurd (by decide) c9) (fun _ => ?_)
      refine ar_iload_n (j := 1) (q := 41) rfl rfl rfl rfl ?_
      refine ar_bipush (v := 10) (q := 43) rfl rfl rfl ?_
      obtain ⟨hA, hB⟩ := h
      refine ar_br am_c_eq (t := 59) (q := 46) rfl rfl rfl (fun c_6 => ?_) (fun c_6 => ?_)
      · have h := hA c_6
        clear hA hB
        refine ar_aload_n (j := 0) (q := 60) rfl rfl rfl rfl ?_
        refine ar_getf (v := .ref 106) (q := 63) rfl rfl mk_0 rfl rfl ?_
        refine ar_aload_n (j := 0) (q := 64) rfl rfl rfl rfl ?_
        refine ar_getf (v := .ref 95) (q := 67) rfl rfl mk_0 rfl rfl ?_
        refine ar_invv (as := [.ref 95]) (rest := []) (b2 := (0, 0)) (b3 := (0, 0)) (q := 70) rfl rfl rfl rfl mk_106 rfl rfl rfl rfl rfl ?_
        refine am_meth_mono d _ _ _ _ _ (fun v9 m9 h9 => ?_) h
        obtain ⟨I_7, L_8, rfl, rfl, h⟩ := h9
        show am_Run am_X0 (am_meth d) 36 R 70 [some (.ref 0), some (.int x), some (.int z_1), some (.int 0)] [] (am_mk I_7 L_8, 0, 0)
        refine ar_aload_n (j := 0) (q := 71) rfl rfl rfl rfl ?_
        refine ar_getf (v := .ref 106) (q := 74) rfl rfl mk_0 rfl rfl ?_
        refine ar_invv (as := []) (rest := []) (b2 := (0, 0)) (b3 := (0, 0)) (q := 77) rfl rfl rfl rfl mk_106 rfl rfl rfl rfl rfl ?_
        refine am_meth_mono d _ _ _ _ _ (fun v9 m9 h9 => ?_) h
        obtain ⟨I_9, L_10, rfl, rfl, h⟩ := h9
        show am_Run am_X0 (am_meth d) 36 R 77 [some (.ref 0), some (.int x), some (.int z_1), some (.int 0)] [] (am_mk I_9 L_10, 0, 0)
        refine ar_iload_n (j := 3) (q := 78) rfl rfl rfl rfl ?_
        refine ar_b0 am_c_eq (t := 91) (q := 81) rfl rfl rfl (fun _ => ?_) (fun c9 => absurd (by decide) c9)
        refine ar_iload_n (j := 1) (q := 92) rfl rfl rfl rfl ?_
        refine ar_bipush (v := 10) (q := 94) rfl rfl rfl ?_
        refine ar_br am_c_ne (t := 107) (q := 97) rfl rfl rfl (fun c9 => absurd c_6 c9) (fun _ => ?_)
        refine ar_aload_n (j := 0) (q := 98) rfl rfl rfl rfl ?_
        refine ar_getf (v := .ref 106) (q := 101) rfl rfl mk_0 rfl rfl ?_
        refine ar_getf (v := .int (I_9 106 1)) (q := 104) rfl rfl mk_106 rfl rfl ?_
        refine ar_goto (t := 114) rfl rfl ?_
        exact ar_iret rfl rfl h
      · have h := hB c_6
        clear hA hB
        refine ar_iload_n (j := 1) (q := 47) rfl rfl rfl rfl ?_
        refine ar_bipush (v := 11) (q := 49) rfl rfl rfl ?_
        obtain ⟨hA, hB⟩ := h
        refine ar_br am_c_eq (t := 59) (q := 52) rfl rfl rfl (fun c_11 => ?_) (fun c_11 => ?_)
        · have h := hA c_11
          clear hA hB
          refine ar_aload_n (j := 0) (q := 60) rfl rfl rfl rfl ?_
          refine ar_getf (v := .ref 106) (q := 63) rfl rfl mk_0 rfl rfl ?_
          refine ar_aload_n (j := 0) (q := 64) rfl rfl rfl rfl ?_
          refine ar_getf (v := .ref 95) (q := 67) rfl rfl mk_0 rfl rfl ?_
          refine ar_invv (as := [.ref 95]) (rest := []) (b2 := (0, 0)) (b3 := (0, 0)) (q := 70) rfl rfl rfl rfl mk_106 rfl rfl rfl rfl rfl ?_
          refine am_meth_mono d _ _ _ _ _ (fun v9 m9 h9 => ?_) h
          obtain ⟨I_12, L_13, rfl, rfl, h⟩ := h9
          show am_Run am_X0 (am_meth d) 36 R 70 [some (.ref 0), some (.int x), some (.int z_1), some (.int 0)] [] (am_mk I_12 L_13, 0, 0)
          refine ar_aload_n (j := 0) (q := 71) rfl rfl rfl rfl ?_
          refine ar_getf (v := .ref 106) (q := 74) rfl rfl mk_0 rfl rfl ?_
          refine ar_invv (as := []) (rest := []) (b2 := (0, 0)) (b3 := (0, 0)) (q := 77) rfl rfl rfl rfl mk_106 rfl rfl rfl rfl rfl ?_
          refine am_meth_mono d _ _ _ _ _ (fun v9 m9 h9 => ?_) h
          obtain ⟨I_14, L_15, rfl, rfl, h⟩ := h9
          show am_Run am_X0 (am_meth d) 36 R 77 [some (.ref 0), some (.int x), some (.int z_1), some (.int 0)] [] (am_mk I_14 L_15, 0, 0)
          refine ar_iload_n (j := 3) (q := 78) rfl rfl rfl rfl ?_
          refine ar_b0 am_c_eq (t := 91) (q := 81) rfl rfl rfl (fun _ => ?_) (fun c9 => absurd (by decide) c9)
          refine ar_iload_n (j := 1) (q := 92) rfl rfl rfl rfl ?_
          refine ar_bipush (v := 10) (q := 94) rfl rfl rfl ?_
          refine ar_br am_c_ne (t := 107) (q := 97) rfl rfl rfl (fun _ => ?_) (fun c9 => absurd c_6 c9)
          refine ar_aload_n (j := 0) (q := 108) rfl rfl rfl rfl ?_
          refine ar_getf (v := .ref 106) (q := 111) rfl rfl mk_0 rfl rfl ?_
          refine ar_getf (v := .int (I_14 106 2)) (q := 114) rfl rfl mk_106 rfl rfl ?_
          exact ar_iret rfl rfl h
        · have h := hB c_11
          clear hA hB
          refine ar_aload_n (j := 0) (q := 53) rfl rfl rfl rfl ?_
          refine ar_bipush (v := (-2 : Int32)) (q := 55) rfl rfl rfl ?_
          refine ar_invv (as := [.int (-2 : Int32)]) (rest := []) (b2 := (0, 0)) (b3 := (0, 0)) (q := 58) rfl rfl rfl rfl mk_0 rfl rfl rfl rfl rfl ?_
          refine am_meth_mono d _ _ _ _ _ (fun v9 m9 h9 => ?_) h
          obtain ⟨z_16, I_17, L_18, rfl, rfl, h⟩ := h9
          show am_Run am_X0 (am_meth d) 36 R 58 [some (.ref 0), some (.int x), some (.int z_1), some (.int 0)] [.int z_16] (am_mk I_17 L_18, 0, 0)
          exact ar_iret rfl rfl h
    · have h := hB c_5
      clear hA hB
      refine ar_iload_n (j := 1) (q := 20) rfl rfl rfl rfl ?_
      refine ar_aload_n (j := 0) (q := 21) rfl rfl rfl rfl ?_
      refine ar_getf (v := .ref 95) (q := 24) rfl rfl mk_0 rfl rfl ?_
      refine ar_getf (v := .int (I_2 95 0)) (q := 27) rfl rfl mk_95 rfl rfl ?_
      obtain ⟨hA, hB⟩ := h
      refine ar_br am_d_ge (t := 34) (q := 30) rfl rfl rfl (fun c_19 => ?_) (fun c_19 => ?_)
      · have h := hB c_19
        clear hA hB
        refine ar_iconst (v := 0) (q := 35) rfl rfl rfl ?_
        refine ar_istore_n (j := 3) (ls' := [some (.ref 0), some (.int x), some (.int z_1), some (.int 0)]) (q := 36) rfl rfl rfl rfl rfl ?_
        refine ar_iload_n (j := 3) (q := 37) rfl rfl rfl rfl ?_
        refine ar_b0 am_c_ne (t := 59) (q := 40) rfl rfl rfl (fun c9 => absurd (by decide) c9) (fun _ => ?_)
        refine ar_iload_n (j := 1) (q := 41) rfl rfl rfl rfl ?_
        refine ar_bipush (v := 10) (q := 43) rfl rfl rfl ?_
        obtain ⟨hA, hB⟩ := h
        refine ar_br am_c_eq (t := 59) (q := 46) rfl rfl rfl (fun c_27 => ?_) (fun c_27 => ?_)
        · have h := hA c_27
          clear hA hB
          refine ar_aload_n (j := 0) (q := 60) rfl rfl rfl rfl ?_
          refine ar_getf (v := .ref 106) (q := 63) rfl rfl mk_0 rfl rfl ?_
          refine ar_aload_n (j := 0) (q := 64) rfl rfl rfl rfl ?_
          refine ar_getf (v := .ref 95) (q := 67) rfl rfl mk_0 rfl rfl ?_
          refine ar_invv (as := [.ref 95]) (rest := []) (b2 := (0, 0)) (b3 := (0, 0)) (q := 70) rfl rfl rfl rfl mk_106 rfl rfl rfl rfl rfl ?_
          refine am_meth_mono d _ _ _ _ _ (fun v9 m9 h9 => ?_) h
          obtain ⟨I_28, L_29, rfl, rfl, h⟩ := h9
          show am_Run am_X0 (am_meth d) 36 R 70 [some (.ref 0), some (.int x), some (.int z_1), some (.int 0)] [] (am_mk I_28 L_29, 0, 0)
          refine ar_aload_n (j := 0) (q := 71) rfl rfl rfl rfl ?_
          refine ar_getf (v := .ref 106) (q := 74) rfl rfl mk_0 rfl rfl ?_
          refine ar_invv (as := []) (rest := []) (b2 := (0, 0)) (b3 := (0, 0)) (q := 77) rfl rfl rfl rfl mk_106 rfl rfl rfl rfl rfl ?_
          refine am_meth_mono d _ _ _ _ _ (fun v9 m9 h9 => ?_) h
          obtain ⟨I_30, L_31, rfl, rfl, h⟩ := h9
          show am_Run am_X0 (am_meth d) 36 R 77 [some (.ref 0), some (.int x), some (.int z_1), some (.int 0)] [] (am_mk I_30 L_31, 0, 0)
          refine ar_iload_n (j := 3) (q := 78) rfl rfl rfl rfl ?_
          refine ar_b0 am_c_eq (t := 91) (q := 81) rfl rfl rfl (fun _ => ?_) (fun c9 => absurd (by decide) c9)
          refine ar_iload_n (j := 1) (q := 92) rfl rfl rfl rfl ?_
          refine ar_bipush (v := 10) (q := 94) rfl rfl rfl ?_
          refine ar_br am_c_ne (t := 107) (q := 97) rfl rfl rfl (fun c9 => absurd c_27 c9) (fun _ => ?_)
          refine ar_aload_n (j := 0) (q := 98) rfl rfl rfl rfl ?_
          refine ar_getf (v := .ref 106) (q := 101) rfl rfl mk_0 rfl rfl ?_
          refine ar_getf (v := .int (I_30 106 1)) (q := 104) rfl rfl mk_106 rfl rfl ?_
          refine ar_goto (t := 114) rfl rfl ?_
          exact ar_iret rfl rfl h
        · have h := hB c_27
          clear hA hB
          refine ar_iload_n (j := 1) (q := 47) rfl rfl rfl rfl ?_
          refine ar_bipush (v := 11) (q := 49) rfl rfl rfl ?_
          obtain ⟨hA, hB⟩ := h
          refine ar_br am_c_eq (t := 59) (q := 52) rfl rfl rfl (fun c_32 => ?_) (fun c_32 => ?_)
          · have h := hA c_32
            clear hA hB
            refine ar_aload_n (j := 0) (q := 60) rfl rfl rfl rfl ?_
            refine ar_getf (v := .ref 106) (q := 63) rfl rfl mk_0 rfl rfl ?_
            refine ar_aload_n (j := 0) (q := 64) rfl rfl rfl rfl ?_
            refine ar_getf (v := .ref 95) (q := 67) rfl rfl mk_0 rfl rfl ?_
            refine ar_invv (as := [.ref 95]) (rest := []) (b2 := (0, 0)) (b3 := (0, 0)) (q := 70) rfl rfl rfl rfl mk_106 rfl rfl rfl rfl rfl ?_
            refine am_meth_mono d _ _ _ _ _ (fun v9 m9 h9 => ?_) h
            obtain ⟨I_33, L_34, rfl, rfl, h⟩ := h9
            show am_Run am_X0 (am_meth d) 36 R 70 [some (.ref 0), some (.int x), some (.int z_1), some (.int 0)] [] (am_mk I_33 L_34, 0, 0)
            refine ar_aload_n (j := 0) (q := 71) rfl rfl rfl rfl ?_
            refine ar_getf (v := .ref 106) (q := 74) rfl rfl mk_0 rfl rfl ?_
            refine ar_invv (as := []) (rest := []) (b2 := (0, 0)) (b3 := (0, 0)) (q := 77) rfl rfl rfl rfl mk_106 rfl rfl rfl rfl rfl ?_
            refine am_meth_mono d _ _ _ _ _ (fun v9 m9 h9 => ?_) h
            obtain ⟨I_35, L_36, rfl, rfl, h⟩ := h9
            show am_Run am_X0 (am_meth d) 36 R 77 [some (.ref 0), some (.int x), some (.int z_1), some (.int 0)] [] (am_mk I_35 L_36, 0, 0)
            refine ar_iload_n (j := 3) (q := 78) rfl rfl rfl rfl ?_
            refine ar_b0 am_c_eq (t := 91) (q := 81) rfl rfl rfl (fun _ => ?_) (fun c9 => absurd (by decide) c9)
            refine ar_iload_n (j := 1) (q := 92) rfl rfl rfl rfl ?_
            refine ar_bipush (v := 10) (q := 94) rfl rfl rfl ?_
            refine ar_br am_c_ne (t := 107) (q := 97) rfl rfl rfl (fun _ => ?_) (fun c9 => absurd c_27 c9)
            refine ar_aload_n (j := 0) (q := 108) rfl rfl rfl rfl ?_
            refine ar_getf (v := .ref 106) (q := 111) rfl rfl mk_0 rfl rfl ?_
            refine ar_getf (v := .int (I_35 106 2)) (q := 114) rfl rfl mk_106 rfl rfl ?_
            exact ar_iret rfl rfl h
          · have h := hB c_32
            clear hA hB
            refine ar_aload_n (j := 0) (q := 53) rfl rfl rfl rfl ?_
            refine ar_bipush (v := (-2 : Int32)) (q := 55) rfl rfl rfl ?_
            refine ar_invv (as := [.int (-2 : Int32)]) (rest := []) (b2 := (0, 0)) (b3 := (0, 0)) (q := 58) rfl rfl rfl rfl mk_0 rfl rfl rfl rfl rfl ?_
            refine am_meth_mono d _ _ _ _ _ (fun v9 m9 h9 => ?_) h
            obtain ⟨z_37, I_38, L_39, rfl, rfl, h⟩ := h9
            show am_Run am_X0 (am_meth d) 36 R 58 [some (.ref 0), some (.int x), some (.int z_1), some (.int 0)] [.int z_37] (am_mk I_38 L_39, 0, 0)
            exact ar_iret rfl rfl h
      · have c_19 := Classical.not_not.mp c_19
        have h := hA c_19
        clear hA hB
        refine ar_iconst (v := 1) (q := 31) rfl rfl rfl ?_
        refine ar_goto (t := 35) rfl rfl ?_
        refine ar_istore_n (j := 3) (ls' := [some (.ref 0), some (.int x), some (.int z_1), some (.int 1)]) (q := 36) rfl rfl rfl rfl rfl ?_
        refine ar_iload_n (j := 3) (q := 37) rfl rfl rfl rfl ?_
        refine ar_b0 am_c_ne (t := 59) (q := 40) rfl rfl rfl (fun _ => ?_) (fun c9 => absurd (by decide) c9)
        refine ar_aload_n (j := 0) (q := 60) rfl rfl rfl rfl ?_
        refine ar_getf (v := .ref 106) (q := 63) rfl rfl mk_0 rfl rfl ?_
        refine ar_aload_n (j := 0) (q := 64) rfl rfl rfl rfl ?_
        refine ar_getf (v := .ref 95) (q := 67) rfl rfl mk_0 rfl rfl ?_
        refine ar_invv (as := [.ref 95]) (rest := []) (b2 := (0, 0)) (b3 := (0, 0)) (q := 70) rfl rfl rfl rfl mk_106 rfl rfl rfl rfl rfl ?_
        refine am_meth_mono d _ _ _ _ _ (fun v9 m9 h9 => ?_) h
        obtain ⟨I_20, L_21, rfl, rfl, h⟩ := h9
        show am_Run am_X0 (am_meth d) 36 R 70 [some (.ref 0), some (.int x), some (.int z_1), some (.int 1)] [] (am_mk I_20 L_21, 0, 0)
        refine ar_aload_n (j := 0) (q := 71) rfl rfl rfl rfl ?_
        refine ar_getf (v := .ref 106) (q := 74) rfl rfl mk_0 rfl rfl ?_
        refine ar_invv (as := []) (rest := []) (b2 := (0, 0)) (b3 := (0, 0)) (q := 77) rfl rfl rfl rfl mk_106 rfl rfl rfl rfl rfl ?_
        refine am_meth_mono d _ _ _ _ _ (fun v9 m9 h9 => ?_) h
        obtain ⟨I_22, L_23, rfl, rfl, h⟩ := h9
        show am_Run am_X0 (am_meth d) 36 R 77 [some (.ref 0), some (.int x), some (.int z_1), some (.int 1)] [] (am_mk I_22 L_23, 0, 0)
        refine ar_iload_n (j := 3) (q := 78) rfl rfl rfl rfl ?_
        refine ar_b0 am_c_eq (t := 91) (q := 81) rfl rfl rfl (fun c9 => absurd c9 (by decide)) (fun _ => ?_)
        refine ar_aload_n (j := 0) (q := 82) rfl rfl rfl rfl ?_
        refine ar_getf (v := .ref 106) (q := 85) rfl rfl mk_0 rfl rfl ?_
        refine ar_getf (v := .ref 107) (q := 88) rfl rfl mk_106 rfl rfl ?_
        refine ar_iload_n (j := 1) (q := 89) rfl rfl rfl rfl ?_
        obtain ⟨j_24, hx_25, hi_26, h⟩ := h
        refine ar_iald (v := I_22 107 j_24) (q := 90) rfl mk_107 (am_inE hi_26 hx_25 (by decide)) (am_clE (n := 6) hi_26 hx_25 (by decide)) rfl ?_
        exact ar_iret rfl rfl h
  · have h := hB c_4
    clear hA hB
    refine ar_aload_n (j := 0) (q := 10) rfl rfl rfl rfl ?_
    refine ar_iload_n (j := 2) (q := 11) rfl rfl rfl rfl ?_
    refine ar_invv (as := [.int z_1]) (rest := []) (b2 := (0, 0)) (b3 := (0, 0)) (q := 14) rfl rfl rfl rfl mk_0 rfl rfl rfl rfl rfl ?_
    refine am_meth_mono d _ _ _ _ _ (fun v9 m9 h9 => ?_) h
    obtain ⟨z_40, I_41, L_42, rfl, rfl, h⟩ := h9
    show am_Run am_X0 (am_meth d) 36 R 14 [some (.ref 0), some (.int x), some (.int z_1), none] [.int z_40] (am_mk I_41 L_42, 0, 0)
    exact ar_iret rfl rfl h
theorem r_M_fill_0 {d : Nat} {R : am_R} {I : Nat → Nat → Int32} {L : Nat → Nat → Int64} {u : Nat} {q : Nat} (h : am_Run am_X0 (am_meth d) 232 R 2 [some (.ref 113), some (.int (nI u)), some (.int (nI q)), some (.int 0), none, none, none, none] [] (am_mk I L, 0, 0)) : am_Run am_X0 (am_meth d) 232 R 0 [some (.ref 113), some (.int (nI u)), some (.int (nI q)), none, none, none, none, none] [] (am_mk I L, 0, 0) := by
  refine ar_iconst (v := 0) (q := 1) rfl rfl rfl ?_
  refine ar_istore_n (j := 3) (ls' := [some (.ref 113), some (.int (nI u)), some (.int (nI q)), some (.int 0), none, none, none, none]) (q := 2) rfl rfl rfl rfl rfl ?_
  exact am_Run.weak (ls' := _) (by exact ⟨rfl, ⟨rfl, ⟨rfl, ⟨rfl, trivial⟩⟩⟩⟩) h
theorem r_M_fill_2 {d : Nat} {R : am_R} {I : Nat → Nat → Int32} {L : Nat → Nat → Int64} {u : Nat} {q : Nat} {m : Nat} (h : (((nI m) < 64 → (m < 64 ∧ (∀ I_3 : Nat → Nat → Int32, I_3 = va_up I 151 (upd (I 151) m (-1 : Int32)) → (∀ I_5 : Nat → Nat → Int32, I_5 = va_up I_3 152 (upd (I_3 152) m 0) → (am_Run am_X0 (am_meth d) 232 R 2 [some (.ref 113), some (.int (nI u)), some (.int (nI q)), some (.int (nI (m + 1))), none, none, none, none] [] (am_mk I_5 L, 0, 0)))))) ∧ (¬ (nI m) < 64 → (∀ I_7 : Nat → Nat → Int32, I_7 = va_up I 151 (upd (I 151) 0 0) → (am_Run am_X0 (am_meth d) 232 R 37 [some (.ref 113), some (.int (nI u)), some (.int (nI q)), some (.int 0), none, none, none, none] [] (am_mk I_7 L, 0, 0)))))) : am_Run am_X0 (am_meth d) 232 R 2 [some (.ref 113), some (.int (nI u)), some (.int (nI q)), some (.int (nI m)), none, none, none, none] [] (am_mk I L, 0, 0) := by
  refine ar_iload_n (j := 3) (q := 3) rfl rfl rfl rfl ?_
  refine ar_bipush (v := 64) (q := 5) rfl rfl rfl ?_
  obtain ⟨hA, hB⟩ := h
  refine ar_br am_d_ge (t := 28) (q := 8) rfl rfl rfl (fun c_1 => ?_) (fun c_1 => ?_)
  · have h := hB c_1
    clear hA hB
    refine ar_aload_n (j := 0) (q := 29) rfl rfl rfl rfl ?_
    refine ar_getf (v := .ref 151) (q := 32) rfl rfl mk_113 rfl rfl ?_
    refine ar_iconst (v := 0) (q := 33) rfl rfl rfl ?_
    refine ar_iconst (v := 0) (q := 34) rfl rfl rfl ?_
    obtain ⟨I_7, hI_8⟩ : ∃ z : Nat → Nat → Int32, z = va_up I 151 (upd (I 151) 0 0) := ⟨_, rfl⟩
    have h := h I_7 hI_8
    refine ar_iast (hp2 := am_mk I_7 L) (q := 35) rfl mk_151 (am_inE rfl (by decide) (by decide)) (by rw [hI_8]; exact mk_s151) rfl ?_
    refine ar_iconst (v := 0) (q := 36) rfl rfl rfl ?_
    refine ar_istore_n (j := 3) (ls' := [some (.ref 113), some (.int (nI u)), some (.int (nI q)), some (.int 0), none, none, none, none]) (q := 37) rfl rfl rfl rfl rfl ?_
    exact am_Run.weak (ls' := _) (by exact ⟨rfl, ⟨rfl, ⟨rfl, ⟨rfl, trivial⟩⟩⟩⟩) h
  · have c_1 := Classical.not_not.mp c_1
    have h := hA c_1
    clear hA hB
    refine ar_aload_n (j := 0) (q := 9) rfl rfl rfl rfl ?_
    refine ar_getf (v := .ref 151) (q := 12) rfl rfl mk_113 rfl rfl ?_
    refine ar_iload_n (j := 3) (q := 13) rfl rfl rfl rfl ?_
    refine ar_iconst (v := (-1 : Int32)) (q := 14) rfl rfl rfl ?_
    obtain ⟨hx_2, h⟩ := h
    obtain ⟨I_3, hI_4⟩ : ∃ z : Nat → Nat → Int32, z = va_up I 151 (upd (I 151) m (-1 : Int32)) := ⟨_, rfl⟩
    have h := h I_3 hI_4
    refine ar_iast (hp2 := am_mk I_3 L) (q := 15) rfl mk_151 (am_inE rfl hx_2 (by decide)) (by rw [am_clT (n := 64) rfl hx_2 (by decide), hI_4]; exact mk_s151) rfl ?_
    refine ar_aload_n (j := 0) (q := 16) rfl rfl rfl rfl ?_
    refine ar_getf (v := .ref 152) (q := 19) rfl rfl mk_113 rfl rfl ?_
    refine ar_iload_n (j := 3) (q := 20) rfl rfl rfl rfl ?_
    refine ar_iconst (v := 0) (q := 21) rfl rfl rfl ?_
    obtain ⟨I_5, hI_6⟩ : ∃ z : Nat → Nat → Int32, z = va_up I_3 152 (upd (I_3 152) m 0) := ⟨_, rfl⟩
    have h := h I_5 hI_6
    refine ar_iast (hp2 := am_mk I_5 L) (q := 22) rfl mk_152 (am_inE rfl hx_2 (by decide)) (by rw [am_clT (n := 64) rfl hx_2 (by decide), hI_6]; exact mk_s152) rfl ?_
    refine ar_iinc (v := nI (m + 1)) (ls' := [some (.ref 113), some (.int (nI u)), some (.int (nI q)), some (.int (nI (m + 1))), none, none, none, none]) (q := 25) rfl rfl rfl (nI_1 _) rfl rfl ?_
    refine ar_goto (t := 2) rfl rfl ?_
    exact am_Run.weak (ls' := _) (by exact ⟨rfl, ⟨rfl, ⟨rfl, ⟨rfl, trivial⟩⟩⟩⟩) h
theorem r_M_fill_37 {d : Nat} {R : am_R} {I : Nat → Nat → Int32} {L : Nat → Nat → Int64} {u : Nat} {q : Nat} {k : Nat} (h : (((nI k) < (I 113 4) → ((((((nI u) >>> ((nI k) &&& 31)) &&& 1) = 1 → (am_Run am_X0 (am_meth d) 232 R 37 [some (.ref 113), some (.int (nI u)), some (.int (nI q)), some (.int (nI (k + 1))), none, none, none, none] [] (am_mk I L, 0, 0))) ∧ (¬ (((nI u) >>> ((nI k) &&& 31)) &&& 1) = 1 → (am_Run am_X0 (am_meth d) 232 R 61 [some (.ref 113), some (.int (nI u)), some (.int (nI q)), some (.int (nI k)), some (.int 63), none, none, none] [] (am_mk I L, 0, 0)))))) ∧ (¬ (nI k) < (I 113 4) → (R none (am_mk I L, 0, 0))))) : am_Run am_X0 (am_meth d) 232 R 37 [some (.ref 113), some (.int (nI u)), some (.int (nI q)), some (.int (nI k)), none, none, none, none] [] (am_mk I L, 0, 0) := by
  refine ar_iload_n (j := 3) (q := 38) rfl rfl rfl rfl ?_
  refine ar_aload_n (j := 0) (q := 39) rfl rfl rfl rfl ?_
  refine ar_getf (v := .int (I 113 4)) (q := 42) rfl rfl mk_113 rfl rfl ?_
  obtain ⟨hA, hB⟩ := h
  refine ar_br am_d_ge (t := 227) (q := 45) rfl rfl rfl (fun c_1 => ?_) (fun c_1 => ?_)
  · have h := hB c_1
    clear hA hB
    exact ar_vret rfl rfl h
  · have c_1 := Classical.not_not.mp c_1
    have h := hA c_1
    clear hA hB
    refine ar_iload_n (j := 1) (q := 46) rfl rfl rfl rfl ?_
    refine ar_iload_n (j := 3) (q := 47) rfl rfl rfl rfl ?_
    refine ar_ib (i := .ishr) (z := (nI u) >>> ((nI k) &&& 31)) (q := 48) rfl rfl rfl rfl rfl ?_
    refine ar_iconst (v := 1) (q := 49) rfl rfl rfl ?_
    refine ar_ib (i := .iand) (z := ((nI u) >>> ((nI k) &&& 31)) &&& 1) (q := 50) rfl rfl rfl rfl rfl ?_
    refine ar_iconst (v := 1) (q := 51) rfl rfl rfl ?_
    obtain ⟨hA, hB⟩ := h
    refine ar_br am_c_ne (t := 57) (q := 54) rfl rfl rfl (fun c_2 => ?_) (fun c_2 => ?_)
    · have h := hB c_2
      clear hA hB
      refine ar_bipush (v := 63) (q := 59) rfl rfl rfl ?_
      refine ar_istore (ls' := [some (.ref 113), some (.int (nI u)), some (.int (nI q)), some (.int (nI k)), some (.int 63), none, none, none]) (q := 61) rfl rfl rfl rfl ?_
      exact am_Run.weak (ls' := _) (by exact ⟨rfl, ⟨rfl, ⟨rfl, ⟨rfl, ⟨rfl, trivial⟩⟩⟩⟩⟩) h
    · have c_2 := Classical.not_not.mp c_2
      have h := hA c_2
      clear hA hB
      refine ar_goto (t := 221) rfl rfl ?_
      refine ar_iinc (v := nI (k + 1)) (ls' := [some (.ref 113), some (.int (nI u)), some (.int (nI q)), some (.int (nI (k + 1))), none, none, none, none]) (q := 224) rfl rfl rfl (nI_1 _) rfl rfl ?_
      refine ar_goto (t := 37) rfl rfl ?_
      exact am_Run.weak (ls' := _) (by exact ⟨rfl, ⟨rfl, ⟨rfl, ⟨rfl, trivial⟩⟩⟩⟩) h
theorem r_M_fill_61 {d : Nat} {R : am_R} {I : Nat → Nat → Int32} {L : Nat → Nat → Int64} {u : Nat} {q : Nat} {k : Nat} {m : Int32} (h : ((m < 0 → (am_Run am_X0 (am_meth d) 232 R 37 [some (.ref 113), some (.int (nI u)), some (.int (nI q)), some (.int (nI (k + 1))), none, none, none, none] [] (am_mk I L, 0, 0))) ∧ (¬ m < 0 → (∃ j_2 : Nat, j_2 < 64 ∧ m = nI j_2 ∧ ((((I 151 j_2) < 0 → (am_Run am_X0 (am_meth d) 232 R 61 [some (.ref 113), some (.int (nI u)), some (.int (nI q)), some (.int (nI k)), some (.int (m + (-1))), none, none, none] [] (am_mk I L, 0, 0))) ∧ (¬ (I 151 j_2) < 0 → (am_Run am_X0 (am_meth d) 232 R 82 [some (.ref 113), some (.int (nI u)), some (.int (nI q)), some (.int (nI k)), some (.int m), some (.int 0), none, none] [] (am_mk I L, 0, 0))))))))) : am_Run am_X0 (am_meth d) 232 R 61 [some (.ref 113), some (.int (nI u)), some (.int (nI q)), some (.int (nI k)), some (.int m), none, none, none] [] (am_mk I L, 0, 0) := by
  refine ar_iload (q := 63) rfl rfl rfl ?_
  obtain ⟨hA, hB⟩ := h
  refine ar_b0 am_c_lt (t := 221) (q := 66) rfl rfl rfl (fun c_1 => ?_) (fun c_1 => ?_)
  · have h := hA c_1
    clear hA hB
    refine ar_iinc (v := nI (k + 1)) (ls' := [some (.ref 113), some (.int (nI u)), some (.int (nI q)), some (.int (nI (k + 1))), some (.int m), none, none, none]) (q := 224) rfl rfl rfl (nI_1 _) rfl rfl ?_
    refine ar_goto (t := 37) rfl rfl ?_
    exact am_Run.weak (ls' := _) (by exact ⟨rfl, ⟨rfl, ⟨rfl, ⟨rfl, trivial⟩⟩⟩⟩) h
  · have h := hB c_1
    clear hA hB
    refine ar_aload_n (j := 0) (q := 67) rfl rfl rfl rfl ?_
    refine ar_getf (v := .ref 151) (q := 70) rfl rfl mk_113 rfl rfl ?_
    refine ar_iload (q := 72) rfl rfl rfl ?_
    obtain ⟨j_2, hx_3, hi_4, h⟩ := h
    refine ar_iald (v := I 151 j_2) (q := 73) rfl mk_151 (am_inE hi_4 hx_3 (by decide)) (am_clE (n := 64) hi_4 hx_3 (by decide)) rfl ?_
    obtain ⟨hA, hB⟩ := h
    refine ar_b0 am_d_ge (t := 79) (q := 76) rfl rfl rfl (fun c_5 => ?_) (fun c_5 => ?_)
    · have h := hB c_5
      clear hA hB
      refine ar_iconst (v := 0) (q := 80) rfl rfl rfl ?_
      refine ar_istore (ls' := [some (.ref 113), some (.int (nI u)), some (.int (nI q)), some (.int (nI k)), some (.int m), some (.int 0), none, none]) (q := 82) rfl rfl rfl rfl ?_
      exact am_Run.weak (ls' := _) (by exact ⟨rfl, ⟨rfl, ⟨rfl, ⟨rfl, ⟨rfl, ⟨rfl, trivial⟩⟩⟩⟩⟩⟩) h
    · have c_5 := Classical.not_not.mp c_5
      have h := hA c_5
      clear hA hB
      refine ar_goto (t := 215) rfl rfl ?_
      refine ar_iinc (v := m + (-1)) (ls' := [some (.ref 113), some (.int (nI u)), some (.int (nI q)), some (.int (nI k)), some (.int (m + (-1))), none, none, none]) (q := 218) rfl rfl rfl rfl rfl rfl ?_
      refine ar_goto (t := 61) rfl rfl ?_
      exact am_Run.weak (ls' := _) (by exact ⟨rfl, ⟨rfl, ⟨rfl, ⟨rfl, ⟨rfl, trivial⟩⟩⟩⟩⟩) h
theorem r_M_fill_82 {d : Nat} {R : am_R} {I : Nat → Nat → Int32} {L : Nat → Nat → Int64} {u : Nat} {q : Nat} {k : Nat} {m : Nat} {p : Nat} (h : (((nI p) < (I 113 39) → ((((((nI q) >>> ((nI p) &&& 31)) &&& 1) = 0 → (am_Run am_X0 (am_meth d) 232 R 82 [some (.ref 113), some (.int (nI u)), some (.int (nI q)), some (.int (nI k)), some (.int (nI m)), some (.int (nI (p + 1))), none, none] [] (am_mk I L, 0, 0))) ∧ (¬ (((nI q) >>> ((nI p) &&& 31)) &&& 1) = 0 → ((((((nI m) >>> ((nI p) &&& 31)) &&& 1) = 1 → (am_Run am_X0 (am_meth d) 232 R 82 [some (.ref 113), some (.int (nI u)), some (.int (nI q)), some (.int (nI k)), some (.int (nI m)), some (.int (nI (p + 1))), none, none] [] (am_mk I L, 0, 0))) ∧ (¬ (((nI m) >>> ((nI p) &&& 31)) &&& 1) = 1 → (k < 20 ∧ ((((((I 153 k) >>> ((nI p) &&& 31)) &&& 1) = 0 → (am_Run am_X0 (am_meth d) 232 R 82 [some (.ref 113), some (.int (nI u)), some (.int (nI q)), some (.int (nI k)), some (.int (nI m)), some (.int (nI (p + 1))), none, none] [] (am_mk I L, 0, 0))) ∧ (¬ (((I 153 k) >>> ((nI p) &&& 31)) &&& 1) = 0 → (m < 64 ∧ (∃ j_7 : Nat, j_7 < 120 ∧ ((nI k) * 6) + (nI p) = nI j_7 ∧ (∃ j_10 : Nat, j_10 < 64 ∧ (nI m) ||| (1 <<< ((nI p) &&& 31)) = nI j_10 ∧ ((((I 151 j_10) < 0 → (∀ I_14 : Nat → Nat → Int32, I_14 = va_up I 151 (upd (I 151) j_10 ((I 151 m) + 1)) → (∀ I_16 : Nat → Nat → Int32, I_16 = va_up I_14 152 (upd (I_14 152) j_10 ((I 152 m) + (I 154 j_7))) → (am_Run am_X0 (am_meth d) 232 R 82 [some (.ref 113), some (.int (nI u)), some (.int (nI q)), some (.int (nI k)), some (.int (nI m)), some (.int (nI (p + 1))), none, none] [] (am_mk I_16 L, 0, 0))))) ∧ (¬ (I 151 j_10) < 0 → ((((I 152 j_10) ≤ ((I 152 m) + (I 154 j_7)) → (am_Run am_X0 (am_meth d) 232 R 82 [some (.ref 113), some (.int (nI u)), some (.int (nI q)), some (.int (nI k)), some (.int (nI m)), some (.int (nI (p + 1))), none, none] [] (am_mk I L, 0, 0))) ∧ (¬ (I 152 j_10) ≤ ((I 152 m) + (I 154 j_7)) → (∀ I_19 : Nat → Nat → Int32, I_19 = va_up I 151 (upd (I 151) j_10 ((I 151 m) + 1)) → (∀ I_21 : Nat → Nat → Int32, I_21 = va_up I_19 152 (upd (I_19 152) j_10 ((I 152 m) + (I 154 j_7))) → (am_Run am_X0 (am_meth d) 232 R 82 [some (.ref 113), some (.int (nI u)), some (.int (nI q)), some (.int (nI k)), some (.int (nI m)), some (.int (nI (p + 1))), none, none] [] (am_mk I_21 L, 0, 0)))))))))))))))))))))))) ∧ (¬ (nI p) < (I 113 39) → (am_Run am_X0 (am_meth d) 232 R 61 [some (.ref 113), some (.int (nI u)), some (.int (nI q)), some (.int (nI k)), some (.int ((nI m) + (-1))), none, none, none] [] (am_mk I L, 0, 0))))) : am_Run am_X0 (am_meth d) 232 R 82 [some (.ref 113), some (.int (nI u)), some (.int (nI q)), some (.int (nI k)), some (.int (nI m)), some (.int (nI p)), none, none] [] (am_mk I L, 0, 0) := by
  refine ar_iload (q := 84) rfl rfl rfl ?_
  refine ar_aload_n (j := 0) (q := 85) rfl rfl rfl rfl ?_
  refine ar_getf (v := .int (I 113 39)) (q := 88) rfl rfl mk_113 rfl rfl ?_
  obtain ⟨hA, hB⟩ := h
  refine ar_br am_d_ge (t := 215) (q := 91) rfl rfl rfl (fun c_1 => ?_) (fun c_1 => ?_)
  · have h := hB c_1
    clear hA hB
    refine ar_iinc (v := (nI m) + (-1)) (ls' := [some (.ref 113), some (.int (nI u)), some (.int (nI q)), some (.int (nI k)), some (.int ((nI m) + (-1))), some (.int (nI p)), none, none]) (q := 218) rfl rfl rfl rfl rfl rfl ?_
    refine ar_goto (t := 61) rfl rfl ?_
    exact am_Run.weak (ls' := _) (by exact ⟨rfl, ⟨rfl, ⟨rfl, ⟨rfl, ⟨rfl, trivial⟩⟩⟩⟩⟩) h
  · have c_1 := Classical.not_not.mp c_1
    have h := hA c_1
    clear hA hB
    refine ar_iload_n (j := 2) (q := 92) rfl rfl rfl rfl ?_
    refine ar_iload (q := 94) rfl rfl rfl ?_
    refine ar_ib (i := .ishr) (z := (nI q) >>> ((nI p) &&& 31)) (q := 95) rfl rfl rfl rfl rfl ?_
    refine ar_iconst (v := 1) (q := 96) rfl rfl rfl ?_
    refine ar_ib (i := .iand) (z := ((nI q) >>> ((nI p) &&& 31)) &&& 1) (q := 97) rfl rfl rfl rfl rfl ?_
    obtain ⟨hA, hB⟩ := h
    refine ar_b0 am_c_eq (t := 209) (q := 100) rfl rfl rfl (fun c_2 => ?_) (fun c_2 => ?_)
    · have h := hA c_2
      clear hA hB
      refine ar_iinc (v := nI (p + 1)) (ls' := [some (.ref 113), some (.int (nI u)), some (.int (nI q)), some (.int (nI k)), some (.int (nI m)), some (.int (nI (p + 1))), none, none]) (q := 212) rfl rfl rfl (nI_1 _) rfl rfl ?_
      refine ar_goto (t := 82) rfl rfl ?_
      exact am_Run.weak (ls' := _) (by exact ⟨rfl, ⟨rfl, ⟨rfl, ⟨rfl, ⟨rfl, ⟨rfl, trivial⟩⟩⟩⟩⟩⟩) h
    · have h := hB c_2
      clear hA hB
      refine ar_iload (q := 102) rfl rfl rfl ?_
      refine ar_iload (q := 104) rfl rfl rfl ?_
      refine ar_ib (i := .ishr) (z := (nI m) >>> ((nI p) &&& 31)) (q := 105) rfl rfl rfl rfl rfl ?_
      refine ar_iconst (v := 1) (q := 106) rfl rfl rfl ?_
      refine ar_ib (i := .iand) (z := ((nI m) >>> ((nI p) &&& 31)) &&& 1) (q := 107) rfl rfl rfl rfl rfl ?_
      refine ar_iconst (v := 1) (q := 108) rfl rfl rfl ?_
      obtain ⟨hA, hB⟩ := h
      refine ar_br am_c_eq (t := 209) (q := 111) rfl rfl rfl (fun c_3 => ?_) (fun c_3 => ?_)
      · have h := hA c_3
        clear hA hB
        refine ar_iinc (v := nI (p + 1)) (ls' := [some (.ref 113), some (.int (nI u)), some (.int (nI q)), some (.int (nI k)), some (.int (nI m)), some (.int (nI (p + 1))), none, none]) (q := 212) rfl rfl rfl (nI_1 _) rfl rfl ?_
        refine ar_goto (t := 82) rfl rfl ?_
        exact am_Run.weak (ls' := _) (by exact ⟨rfl, ⟨rfl, ⟨rfl, ⟨rfl, ⟨rfl, ⟨rfl, trivial⟩⟩⟩⟩⟩⟩) h
      · have h := hB c_3
        clear hA hB
        refine ar_aload_n (j := 0) (q := 112) rfl rfl rfl rfl ?_
        refine ar_getf (v := .ref 153) (q := 115) rfl rfl mk_113 rfl rfl ?_
        refine ar_iload_n (j := 3) (q := 116) rfl rfl rfl rfl ?_
        obtain ⟨hx_4, h⟩ := h
        refine ar_iald (v := I 153 k) (q := 117) rfl mk_153 (am_inE rfl hx_4 (by decide)) (am_clE (n := 20) rfl hx_4 (by decide)) rfl ?_
        refine ar_iload (q := 119) rfl rfl rfl ?_
        refine ar_ib (i := .ishr) (z := (I 153 k) >>> ((nI p) &&& 31)) (q := 120) rfl rfl rfl rfl rfl ?_
        refine ar_iconst (v := 1) (q := 121) rfl rfl rfl ?_
        refine ar_ib (i := .iand) (z := ((I 153 k) >>> ((nI p) &&& 31)) &&& 1) (q := 122) rfl rfl rfl rfl rfl ?_
        obtain ⟨hA, hB⟩ := h
        refine ar_b0 am_c_ne (t := 128) (q := 125) rfl rfl rfl (fun c_5 => ?_) (fun c_5 => ?_)
        · have h := hB c_5
          clear hA hB
          refine ar_iload (q := 130) rfl rfl rfl ?_
          refine ar_iconst (v := 1) (q := 131) rfl rfl rfl ?_
          refine ar_iload (q := 133) rfl rfl rfl ?_
          refine ar_ib (i := .ishl) (z := 1 <<< ((nI p) &&& 31)) (q := 134) rfl rfl rfl rfl rfl ?_
          refine ar_ib (i := .ior) (z := (nI m) ||| (1 <<< ((nI p) &&& 31))) (q := 135) rfl rfl rfl rfl rfl ?_
          refine ar_istore (ls' := [some (.ref 113), some (.int (nI u)), some (.int (nI q)), some (.int (nI k)), some (.int (nI m)), some (.int (nI p)), some (.int ((nI m) ||| (1 <<< ((nI p) &&& 31)))), none]) (q := 137) rfl rfl rfl rfl ?_
          refine ar_aload_n (j := 0) (q := 138) rfl rfl rfl rfl ?_
          refine ar_getf (v := .ref 152) (q := 141) rfl rfl mk_113 rfl rfl ?_
          refine ar_iload (q := 143) rfl rfl rfl ?_
          obtain ⟨hx_6, h⟩ := h
          refine ar_iald (v := I 152 m) (q := 144) rfl mk_152 (am_inE rfl hx_6 (by decide)) (am_clE (n := 64) rfl hx_6 (by decide)) rfl ?_
          refine ar_aload_n (j := 0) (q := 145) rfl rfl rfl rfl ?_
          refine ar_getf (v := .ref 154) (q := 148) rfl rfl mk_113 rfl rfl ?_
          refine ar_iload_n (j := 3) (q := 149) rfl rfl rfl rfl ?_
          refine ar_bipush (v := 6) (q := 151) rfl rfl rfl ?_
          refine ar_ib (i := .imul) (z := (nI k) * 6) (q := 152) rfl rfl rfl rfl rfl ?_
          refine ar_iload (q := 154) rfl rfl rfl ?_
          refine ar_ib (i := .iadd) (z := ((nI k) * 6) + (nI p)) (q := 155) rfl rfl rfl rfl rfl ?_
          obtain ⟨j_7, hx_8, hi_9, h⟩ := h
          refine ar_iald (v := I 154 j_7) (q := 156) rfl mk_154 (am_inE hi_9 hx_8 (by decide)) (am_clE (n := 120) hi_9 hx_8 (by decide)) rfl ?_
          refine ar_ib (i := .iadd) (z := (I 152 m) + (I 154 j_7)) (q := 157) rfl rfl rfl rfl rfl ?_
          refine ar_istore (ls' := [some (.ref 113), some (.int (nI u)), some (.int (nI q)), some (.int (nI k)), some (.int (nI m)), some (.int (nI p)), some (.int ((nI m) ||| (1 <<< ((nI p) &&& 31)))), some (.int ((I 152 m) + (I 154 j_7)))]) (q := 159) rfl rfl rfl rfl ?_
          refine ar_aload_n (j := 0) (q := 160) rfl rfl rfl rfl ?_
          refine ar_getf (v := .ref 151) (q := 163) rfl rfl mk_113 rfl rfl ?_
          refine ar_iload (q := 165) rfl rfl rfl ?_
          obtain ⟨j_10, hx_11, hi_12, h⟩ := h
          refine ar_iald (v := I 151 j_10) (q := 166) rfl mk_151 (am_inE hi_12 hx_11 (by decide)) (am_clE (n := 64) hi_12 hx_11 (by decide)) rfl ?_
          obtain ⟨hA, hB⟩ := h
          refine ar_b0 am_c_lt (t := 184) (q := 169) rfl rfl rfl (fun c_13 => ?_) (fun c_13 => ?_)
          · have h := hA c_13
            clear hA hB
            refine ar_aload_n (j := 0) (q := 185) rfl rfl rfl rfl ?_
            refine ar_getf (v := .ref 151) (q := 188) rfl rfl mk_113 rfl rfl ?_
            refine ar_iload (q := 190) rfl rfl rfl ?_
            refine ar_aload_n (j := 0) (q := 191) rfl rfl rfl rfl ?_
            refine ar_getf (v := .ref 151) (q := 194) rfl rfl mk_113 rfl rfl ?_
            refine ar_iload (q := 196) rfl rfl rfl ?_
            refine ar_iald (v := I 151 m) (q := 197) rfl mk_151 (am_inE rfl hx_6 (by decide)) (am_clE (n := 64) rfl hx_6 (by decide)) rfl ?_
            refine ar_iconst (v := 1) (q := 198) rfl rfl rfl ?_
            refine ar_ib (i := .iadd) (z := (I 151 m) + 1) (q := 199) rfl rfl rfl rfl rfl ?_
            obtain ⟨I_14, hI_15⟩ : ∃ z : Nat → Nat → Int32, z = va_up I 151 (upd (I 151) j_10 ((I 151 m) + 1)) := ⟨_, rfl⟩
            have h := h I_14 hI_15
            refine ar_iast (hp2 := am_mk I_14 L) (q := 200) rfl mk_151 (am_inE hi_12 hx_11 (by decide)) (by rw [am_clT (n := 64) hi_12 hx_11 (by decide), hI_15]; exact mk_s151) rfl ?_
            refine ar_aload_n (j := 0) (q := 201) rfl rfl rfl rfl ?_
            refine ar_getf (v := .ref 152) (q := 204) rfl rfl mk_113 rfl rfl ?_
            refine ar_iload (q := 206) rfl rfl rfl ?_
            refine ar_iload (q := 208) rfl rfl rfl ?_
            obtain ⟨I_16, hI_17⟩ : ∃ z : Nat → Nat → Int32, z = va_up I_14 152 (upd (I_14 152) j_10 ((I 152 m) + (I 154 j_7))) := ⟨_, rfl⟩
            have h := h I_16 hI_17
            refine ar_iast (hp2 := am_mk I_16 L) (q := 209) rfl mk_152 (am_inE hi_12 hx_11 (by decide)) (by rw [am_clT (n := 64) hi_12 hx_11 (by decide), hI_17]; exact mk_s152) rfl ?_
            refine ar_iinc (v := nI (p + 1)) (ls' := [some (.ref 113), some (.int (nI u)), some (.int (nI q)), some (.int (nI k)), some (.int (nI m)), some (.int (nI (p + 1))), some (.int ((nI m) ||| (1 <<< ((nI p) &&& 31)))), some (.int ((I 152 m) + (I 154 j_7)))]) (q := 212) rfl rfl rfl (nI_1 _) rfl rfl ?_
            refine ar_goto (t := 82) rfl rfl ?_
            exact am_Run.weak (ls' := _) (by exact ⟨rfl, ⟨rfl, ⟨rfl, ⟨rfl, ⟨rfl, ⟨rfl, trivial⟩⟩⟩⟩⟩⟩) h
          · have h := hB c_13
            clear hA hB
            refine ar_aload_n (j := 0) (q := 170) rfl rfl rfl rfl ?_
            refine ar_getf (v := .ref 152) (q := 173) rfl rfl mk_113 rfl rfl ?_
            refine ar_iload (q := 175) rfl rfl rfl ?_
            refine ar_iald (v := I 152 j_10) (q := 176) rfl mk_152 (am_inE hi_12 hx_11 (by decide)) (am_clE (n := 64) hi_12 hx_11 (by decide)) rfl ?_
            refine ar_iload (q := 178) rfl rfl rfl ?_
            obtain ⟨hA, hB⟩ := h
            refine ar_br am_d_gt (t := 184) (q := 181) rfl rfl rfl (fun c_18 => ?_) (fun c_18 => ?_)
            · have h := hB c_18
              clear hA hB
              refine ar_aload_n (j := 0) (q := 185) rfl rfl rfl rfl ?_
              refine ar_getf (v := .ref 151) (q := 188) rfl rfl mk_113 rfl rfl ?_
              refine ar_iload (q := 190) rfl rfl rfl ?_
              refine ar_aload_n (j := 0) (q := 191) rfl rfl rfl rfl ?_
              refine ar_getf (v := .ref 151) (q := 194) rfl rfl mk_113 rfl rfl ?_
              refine ar_iload (q := 196) rfl rfl rfl ?_
              refine ar_iald (v := I 151 m) (q := 197) rfl mk_151 (am_inE rfl hx_6 (by decide)) (am_clE (n := 64) rfl hx_6 (by decide)) rfl ?_
              refine ar_iconst (v := 1) (q := 198) rfl rfl rfl ?_
              refine ar_ib (i := .iadd) (z := (I 151 m) + 1) (q := 199) rfl rfl rfl rfl rfl ?_
              obtain ⟨I_19, hI_20⟩ : ∃ z : Nat → Nat → Int32, z = va_up I 151 (upd (I 151) j_10 ((I 151 m) + 1)) := ⟨_, rfl⟩
              have h := h I_19 hI_20
              refine ar_iast (hp2 := am_mk I_19 L) (q := 200) rfl mk_151 (am_inE hi_12 hx_11 (by decide)) (by rw [am_clT (n := 64) hi_12 hx_11 (by decide), hI_20]; exact mk_s151) rfl ?_
              refine ar_aload_n (j := 0) (q := 201) rfl rfl rfl rfl ?_
              refine ar_getf (v := .ref 152) (q := 204) rfl rfl mk_113 rfl rfl ?_
              refine ar_iload (q := 206) rfl rfl rfl ?_
              refine ar_iload (q := 208) rfl rfl rfl ?_
              obtain ⟨I_21, hI_22⟩ : ∃ z : Nat → Nat → Int32, z = va_up I_19 152 (upd (I_19 152) j_10 ((I 152 m) + (I 154 j_7))) := ⟨_, rfl⟩
              have h := h I_21 hI_22
              refine ar_iast (hp2 := am_mk I_21 L) (q := 209) rfl mk_152 (am_inE hi_12 hx_11 (by decide)) (by rw [am_clT (n := 64) hi_12 hx_11 (by decide), hI_22]; exact mk_s152) rfl ?_
              refine ar_iinc (v := nI (p + 1)) (ls' := [some (.ref 113), some (.int (nI u)), some (.int (nI q)), some (.int (nI k)), some (.int (nI m)), some (.int (nI (p + 1))), some (.int ((nI m) ||| (1 <<< ((nI p) &&& 31)))), some (.int ((I 152 m) + (I 154 j_7)))]) (q := 212) rfl rfl rfl (nI_1 _) rfl rfl ?_
              refine ar_goto (t := 82) rfl rfl ?_
              exact am_Run.weak (ls' := _) (by exact ⟨rfl, ⟨rfl, ⟨rfl, ⟨rfl, ⟨rfl, ⟨rfl, trivial⟩⟩⟩⟩⟩⟩) h
            · have c_18 := Classical.not_not.mp c_18
              have h := hA c_18
              clear hA hB
              refine ar_goto (t := 209) rfl rfl ?_
              refine ar_iinc (v := nI (p + 1)) (ls' := [some (.ref 113), some (.int (nI u)), some (.int (nI q)), some (.int (nI k)), some (.int (nI m)), some (.int (nI (p + 1))), some (.int ((nI m) ||| (1 <<< ((nI p) &&& 31)))), some (.int ((I 152 m) + (I 154 j_7)))]) (q := 212) rfl rfl rfl (nI_1 _) rfl rfl ?_
              refine ar_goto (t := 82) rfl rfl ?_
              exact am_Run.weak (ls' := _) (by exact ⟨rfl, ⟨rfl, ⟨rfl, ⟨rfl, ⟨rfl, ⟨rfl, trivial⟩⟩⟩⟩⟩⟩) h
        · have c_5 := Classical.not_not.mp c_5
          have h := hA c_5
          clear hA hB
          refine ar_goto (t := 209) rfl rfl ?_
          refine ar_iinc (v := nI (p + 1)) (ls' := [some (.ref 113), some (.int (nI u)), some (.int (nI q)), some (.int (nI k)), some (.int (nI m)), some (.int (nI (p + 1))), none, none]) (q := 212) rfl rfl rfl (nI_1 _) rfl rfl ?_
          refine ar_goto (t := 82) rfl rfl ?_
          exact am_Run.weak (ls' := _) (by exact ⟨rfl, ⟨rfl, ⟨rfl, ⟨rfl, ⟨rfl, ⟨rfl, trivial⟩⟩⟩⟩⟩⟩) h
theorem r_M_goodness_0 {d : Nat} {R : am_R} {I : Nat → Nat → Int32} {L : Nat → Nat → Int64} {u : Nat} {q : Nat} (h : am_meth d 232 [.ref 113, .int (nI u), .int (nI q)] (am_mk I L, 0, 0) (am_rv (fun I_1 L_2 => am_Run am_X0 (am_meth d) 231 R 11 [some (.ref 113), none, none, some (.int 0), some (.int 0), none] [] (am_mk I_1 L_2, 0, 0)))) : am_Run am_X0 (am_meth d) 231 R 0 [some (.ref 113), some (.int (nI u)), some (.int (nI q)), none, none, none] [] (am_mk I L, 0, 0) := by
  refine ar_aload_n (j := 0) (q := 1) rfl rfl rfl rfl ?_
  refine ar_iload_n (j := 1) (q := 2) rfl rfl rfl rfl ?_
  refine ar_iload_n (j := 2) (q := 3) rfl rfl rfl rfl ?_
  refine ar_invv (as := [.int (nI u), .int (nI q)]) (rest := []) (b2 := (0, 0)) (b3 := (0, 0)) (q := 6) rfl rfl rfl rfl mk_113 rfl rfl rfl rfl rfl ?_
  refine am_meth_mono d _ _ _ _ _ (fun v9 m9 h9 => ?_) h
  obtain ⟨I_1, L_2, rfl, rfl, h⟩ := h9
  show am_Run am_X0 (am_meth d) 231 R 6 [some (.ref 113), some (.int (nI u)), some (.int (nI q)), none, none, none] [] (am_mk I_1 L_2, 0, 0)
  refine ar_iconst (v := 0) (q := 7) rfl rfl rfl ?_
  refine ar_istore_n (j := 3) (ls' := [some (.ref 113), some (.int (nI u)), some (.int (nI q)), some (.int 0), none, none]) (q := 8) rfl rfl rfl rfl rfl ?_
  refine ar_iconst (v := 0) (q := 9) rfl rfl rfl ?_
  refine ar_istore (ls' := [some (.ref 113), some (.int (nI u)), some (.int (nI q)), some (.int 0), some (.int 0), none]) (q := 11) rfl rfl rfl rfl ?_
  exact am_Run.weak (ls' := _) (by exact ⟨rfl, ⟨rfl, ⟨rfl, trivial⟩⟩⟩) h
theorem r_M_goodness_11 {d : Nat} {R : am_R} {I : Nat → Nat → Int32} {L : Nat → Nat → Int64} {b : Int32} {m : Nat} (h : (((nI m) < 64 → (m < 64 ∧ ((((I 151 m) < 0 → (am_Run am_X0 (am_meth d) 231 R 11 [some (.ref 113), none, none, some (.int b), some (.int (nI (m + 1))), none] [] (am_mk I L, 0, 0))) ∧ (¬ (I 151 m) < 0 → ((((((I 151 m) * 10000) - (I 152 m)) ≤ b → (am_Run am_X0 (am_meth d) 231 R 11 [some (.ref 113), none, none, some (.int b), some (.int (nI (m + 1))), none] [] (am_mk I L, 0, 0))) ∧ (¬ (((I 151 m) * 10000) - (I 152 m)) ≤ b → (am_Run am_X0 (am_meth d) 231 R 11 [some (.ref 113), none, none, some (.int (((I 151 m) * 10000) - (I 152 m))), some (.int (nI (m + 1))), none] [] (am_mk I L, 0, 0)))))))))) ∧ (¬ (nI m) < 64 → (R (some (.int b)) (am_mk I L, 0, 0))))) : am_Run am_X0 (am_meth d) 231 R 11 [some (.ref 113), none, none, some (.int b), some (.int (nI m)), none] [] (am_mk I L, 0, 0) := by
  refine ar_iload (q := 13) rfl rfl rfl ?_
  refine ar_bipush (v := 64) (q := 15) rfl rfl rfl ?_
  obtain ⟨hA, hB⟩ := h
  refine ar_br am_d_ge (t := 67) (q := 18) rfl rfl rfl (fun c_1 => ?_) (fun c_1 => ?_)
  · have h := hB c_1
    clear hA hB
    refine ar_iload_n (j := 3) (q := 68) rfl rfl rfl rfl ?_
    exact ar_iret rfl rfl h
  · have c_1 := Classical.not_not.mp c_1
    have h := hA c_1
    clear hA hB
    refine ar_aload_n (j := 0) (q := 19) rfl rfl rfl rfl ?_
    refine ar_getf (v := .ref 151) (q := 22) rfl rfl mk_113 rfl rfl ?_
    refine ar_iload (q := 24) rfl rfl rfl ?_
    obtain ⟨hx_2, h⟩ := h
    refine ar_iald (v := I 151 m) (q := 25) rfl mk_151 (am_inE rfl hx_2 (by decide)) (am_clE (n := 64) rfl hx_2 (by decide)) rfl ?_
    obtain ⟨hA, hB⟩ := h
    refine ar_b0 am_d_ge (t := 31) (q := 28) rfl rfl rfl (fun c_3 => ?_) (fun c_3 => ?_)
    · have h := hB c_3
      clear hA hB
      refine ar_aload_n (j := 0) (q := 32) rfl rfl rfl rfl ?_
      refine ar_getf (v := .ref 151) (q := 35) rfl rfl mk_113 rfl rfl ?_
      refine ar_iload (q := 37) rfl rfl rfl ?_
      refine ar_iald (v := I 151 m) (q := 38) rfl mk_151 (am_inE rfl hx_2 (by decide)) (am_clE (n := 64) rfl hx_2 (by decide)) rfl ?_
      refine ar_sipush (v := 10000) (q := 41) rfl rfl rfl ?_
      refine ar_ib (i := .imul) (z := (I 151 m) * 10000) (q := 42) rfl rfl rfl rfl rfl ?_
      refine ar_aload_n (j := 0) (q := 43) rfl rfl rfl rfl ?_
      refine ar_getf (v := .ref 152) (q := 46) rfl rfl mk_113 rfl rfl ?_
      refine ar_iload (q := 48) rfl rfl rfl ?_
      refine ar_iald (v := I 152 m) (q := 49) rfl mk_152 (am_inE rfl hx_2 (by decide)) (am_clE (n := 64) rfl hx_2 (by decide)) rfl ?_
      refine ar_ib (i := .isub) (z := ((I 151 m) * 10000) - (I 152 m)) (q := 50) rfl rfl rfl rfl rfl ?_
      refine ar_istore (ls' := [some (.ref 113), none, none, some (.int b), some (.int (nI m)), some (.int (((I 151 m) * 10000) - (I 152 m)))]) (q := 52) rfl rfl rfl rfl ?_
      refine ar_iload (q := 54) rfl rfl rfl ?_
      refine ar_iload_n (j := 3) (q := 55) rfl rfl rfl rfl ?_
      obtain ⟨hA, hB⟩ := h
      refine ar_br am_c_le (t := 61) (q := 58) rfl rfl rfl (fun c_4 => ?_) (fun c_4 => ?_)
      · have h := hA c_4
        clear hA hB
        refine ar_iinc (v := nI (m + 1)) (ls' := [some (.ref 113), none, none, some (.int b), some (.int (nI (m + 1))), some (.int (((I 151 m) * 10000) - (I 152 m)))]) (q := 64) rfl rfl rfl (nI_1 _) rfl rfl ?_
        refine ar_goto (t := 11) rfl rfl ?_
        exact am_Run.weak (ls' := _) (by exact ⟨rfl, ⟨rfl, ⟨rfl, trivial⟩⟩⟩) h
      · have h := hB c_4
        clear hA hB
        refine ar_iload (q := 60) rfl rfl rfl ?_
        refine ar_istore_n (j := 3) (ls' := [some (.ref 113), none, none, some (.int (((I 151 m) * 10000) - (I 152 m))), some (.int (nI m)), some (.int (((I 151 m) * 10000) - (I 152 m)))]) (q := 61) rfl rfl rfl rfl rfl ?_
        refine ar_iinc (v := nI (m + 1)) (ls' := [some (.ref 113), none, none, some (.int (((I 151 m) * 10000) - (I 152 m))), some (.int (nI (m + 1))), some (.int (((I 151 m) * 10000) - (I 152 m)))]) (q := 64) rfl rfl rfl (nI_1 _) rfl rfl ?_
        refine ar_goto (t := 11) rfl rfl ?_
        exact am_Run.weak (ls' := _) (by exact ⟨rfl, ⟨rfl, ⟨rfl, trivial⟩⟩⟩) h
    · have c_3 := Classical.not_not.mp c_3
      have h := hA c_3
      clear hA hB
      refine ar_goto (t := 61) rfl rfl ?_
      refine ar_iinc (v := nI (m + 1)) (ls' := [some (.ref 113), none, none, some (.int b), some (.int (nI (m + 1))), none]) (q := 64) rfl rfl rfl (nI_1 _) rfl rfl ?_
      refine ar_goto (t := 11) rfl rfl ?_
      exact am_Run.weak (ls' := _) (by exact ⟨rfl, ⟨rfl, ⟨rfl, trivial⟩⟩⟩) h
theorem r_M_makePlaces_0 {d : Nat} {R : am_R} {I : Nat → Nat → Int32} {L : Nat → Nat → Int64}  (h : am_meth d 217 [.ref 113] (am_mk I L, 0, 0) (am_rv (fun I_1 L_2 => am_meth d 231 [.ref 113, .int 0, .int ((1 <<< ((I_1 113 39) &&& 31)) - 1)] (am_mk I_1 L_2, 0, 0) (am_ri (fun z_3 I_4 L_5 => ∀ I_6 : Nat → Nat → Int32, I_6 = va_up I_4 113 (upd (I_4 113) 50 0) → (∀ I_8 : Nat → Nat → Int32, I_8 = va_up I_6 113 (upd (I_6 113) 51 0) → (am_Run am_X0 (am_meth d) 230 R 35 [some (.ref 113), some (.int 0), some (.int ((1 <<< ((I_1 113 39) &&& 31)) - 1)), some (.int z_3), some (.int 0), none, none] [] (am_mk I_8 L_5, 0, 0)))))))) : am_Run am_X0 (am_meth d) 230 R 0 [some (.ref 113), none, none, none, none, none, none] [] (am_mk I L, 0, 0) := by
  refine ar_aload_n (j := 0) (q := 1) rfl rfl rfl rfl ?_
  refine ar_invv (as := []) (rest := []) (b2 := (0, 0)) (b3 := (0, 0)) (q := 4) rfl rfl rfl rfl mk_113 rfl rfl rfl rfl rfl ?_
  refine am_meth_mono d _ _ _ _ _ (fun v9 m9 h9 => ?_) h
  obtain ⟨I_1, L_2, rfl, rfl, h⟩ := h9
  show am_Run am_X0 (am_meth d) 230 R 4 [some (.ref 113), none, none, none, none, none, none] [] (am_mk I_1 L_2, 0, 0)
  refine ar_iconst (v := 0) (q := 5) rfl rfl rfl ?_
  refine ar_istore_n (j := 1) (ls' := [some (.ref 113), some (.int 0), none, none, none, none, none]) (q := 6) rfl rfl rfl rfl rfl ?_
  refine ar_iconst (v := 1) (q := 7) rfl rfl rfl ?_
  refine ar_aload_n (j := 0) (q := 8) rfl rfl rfl rfl ?_
  refine ar_getf (v := .int (I_1 113 39)) (q := 11) rfl rfl mk_113 rfl rfl ?_
  refine ar_ib (i := .ishl) (z := 1 <<< ((I_1 113 39) &&& 31)) (q := 12) rfl rfl rfl rfl rfl ?_
  refine ar_iconst (v := 1) (q := 13) rfl rfl rfl ?_
  refine ar_ib (i := .isub) (z := (1 <<< ((I_1 113 39) &&& 31)) - 1) (q := 14) rfl rfl rfl rfl rfl ?_
  refine ar_istore_n (j := 2) (ls' := [some (.ref 113), some (.int 0), some (.int ((1 <<< ((I_1 113 39) &&& 31)) - 1)), none, none, none, none]) (q := 15) rfl rfl rfl rfl rfl ?_
  refine ar_aload_n (j := 0) (q := 16) rfl rfl rfl rfl ?_
  refine ar_iconst (v := 0) (q := 17) rfl rfl rfl ?_
  refine ar_iload_n (j := 2) (q := 18) rfl rfl rfl rfl ?_
  refine ar_invv (as := [.int 0, .int ((1 <<< ((I_1 113 39) &&& 31)) - 1)]) (rest := []) (b2 := (0, 0)) (b3 := (0, 0)) (q := 21) rfl rfl rfl rfl mk_113 rfl rfl rfl rfl rfl ?_
  refine am_meth_mono d _ _ _ _ _ (fun v9 m9 h9 => ?_) h
  obtain ⟨z_3, I_4, L_5, rfl, rfl, h⟩ := h9
  show am_Run am_X0 (am_meth d) 230 R 21 [some (.ref 113), some (.int 0), some (.int ((1 <<< ((I_1 113 39) &&& 31)) - 1)), none, none, none, none] [.int z_3] (am_mk I_4 L_5, 0, 0)
  refine ar_istore_n (j := 3) (ls' := [some (.ref 113), some (.int 0), some (.int ((1 <<< ((I_1 113 39) &&& 31)) - 1)), some (.int z_3), none, none, none]) (q := 22) rfl rfl rfl rfl rfl ?_
  refine ar_aload_n (j := 0) (q := 23) rfl rfl rfl rfl ?_
  refine ar_iconst (v := 0) (q := 24) rfl rfl rfl ?_
  obtain ⟨I_6, hI_7⟩ : ∃ z : Nat → Nat → Int32, z = va_up I_4 113 (upd (I_4 113) 50 0) := ⟨_, rfl⟩
  have h := h I_6 hI_7
  refine ar_putf (hp2 := am_mk I_6 L_5) (q := 27) rfl rfl mk_113 rfl (by rw [hI_7]; exact mk_p113_50) rfl ?_
  refine ar_aload_n (j := 0) (q := 28) rfl rfl rfl rfl ?_
  refine ar_iconst (v := 0) (q := 29) rfl rfl rfl ?_
  obtain ⟨I_8, hI_9⟩ : ∃ z : Nat → Nat → Int32, z = va_up I_6 113 (upd (I_6 113) 51 0) := ⟨_, rfl⟩
  have h := h I_8 hI_9
  refine ar_putf (hp2 := am_mk I_8 L_5) (q := 32) rfl rfl mk_113 rfl (by rw [hI_9]; exact mk_p113_51) rfl ?_
  refine ar_iconst (v := 0) (q := 33) rfl rfl rfl ?_
  refine ar_istore (ls' := [some (.ref 113), some (.int 0), some (.int ((1 <<< ((I_1 113 39) &&& 31)) - 1)), some (.int z_3), some (.int 0), none, none]) (q := 35) rfl rfl rfl rfl ?_
  exact am_Run.weak (ls' := _) (by exact ⟨rfl, ⟨rfl, ⟨rfl, ⟨rfl, ⟨rfl, trivial⟩⟩⟩⟩⟩) h
theorem r_M_makePlaces_35 {d : Nat} {R : am_R} {I : Nat → Nat → Int32} {L : Nat → Nat → Int64} {u : Nat} {q : Nat} {a : Int32} {p : Nat} (h : (((nI p) < (I 113 39) → (p < 6 ∧ (∀ I_3 : Nat → Nat → Int32, I_3 = va_up I 155 (upd (I 155) p (-9 : Int32)) → (am_Run am_X0 (am_meth d) 230 R 65 [some (.ref 113), some (.int (nI u)), some (.int ((nI q) &&& ((1 <<< ((nI p) &&& 31)) ^^^ (-1 : Int32)))), some (.int a), some (.int (nI p)), some (.int 0), none] [] (am_mk I_3 L, 0, 0))))) ∧ (¬ (nI p) < (I 113 39) → (R none (am_mk I L, 0, 0))))) : am_Run am_X0 (am_meth d) 230 R 35 [some (.ref 113), some (.int (nI u)), some (.int (nI q)), some (.int a), some (.int (nI p)), none, none] [] (am_mk I L, 0, 0) := by
  refine ar_iload (q := 37) rfl rfl rfl ?_
  refine ar_aload_n (j := 0) (q := 38) rfl rfl rfl rfl ?_
  refine ar_getf (v := .int (I 113 39)) (q := 41) rfl rfl mk_113 rfl rfl ?_
  obtain ⟨hA, hB⟩ := h
  refine ar_br am_d_ge (t := 210) (q := 44) rfl rfl rfl (fun c_1 => ?_) (fun c_1 => ?_)
  · have h := hB c_1
    clear hA hB
    exact ar_vret rfl rfl h
  · have c_1 := Classical.not_not.mp c_1
    have h := hA c_1
    clear hA hB
    refine ar_iload_n (j := 2) (q := 45) rfl rfl rfl rfl ?_
    refine ar_iconst (v := 1) (q := 46) rfl rfl rfl ?_
    refine ar_iload (q := 48) rfl rfl rfl ?_
    refine ar_ib (i := .ishl) (z := 1 <<< ((nI p) &&& 31)) (q := 49) rfl rfl rfl rfl rfl ?_
    refine ar_iconst (v := (-1 : Int32)) (q := 50) rfl rfl rfl ?_
    refine ar_ib (i := .ixor) (z := (1 <<< ((nI p) &&& 31)) ^^^ (-1 : Int32)) (q := 51) rfl rfl rfl rfl rfl ?_
    refine ar_ib (i := .iand) (z := (nI q) &&& ((1 <<< ((nI p) &&& 31)) ^^^ (-1 : Int32))) (q := 52) rfl rfl rfl rfl rfl ?_
    refine ar_istore_n (j := 2) (ls' := [some (.ref 113), some (.int (nI u)), some (.int ((nI q) &&& ((1 <<< ((nI p) &&& 31)) ^^^ (-1 : Int32)))), some (.int a), some (.int (nI p)), none, none]) (q := 53) rfl rfl rfl rfl rfl ?_
    refine ar_aload_n (j := 0) (q := 54) rfl rfl rfl rfl ?_
    refine ar_getf (v := .ref 155) (q := 57) rfl rfl mk_113 rfl rfl ?_
    refine ar_iload (q := 59) rfl rfl rfl ?_
    refine ar_bipush (v := (-9 : Int32)) (q := 61) rfl rfl rfl ?_
    obtain ⟨hx_2, h⟩ := h
    obtain ⟨I_3, hI_4⟩ : ∃ z : Nat → Nat → Int32, z = va_up I 155 (upd (I 155) p (-9 : Int32)) := ⟨_, rfl⟩
    have h := h I_3 hI_4
    refine ar_iast (hp2 := am_mk I_3 L) (q := 62) rfl mk_155 (am_inE rfl hx_2 (by decide)) (by rw [am_clT (n := 6) rfl hx_2 (by decide), hI_4]; exact mk_s155) rfl ?_
    refine ar_iconst (v := 0) (q := 63) rfl rfl rfl ?_
    refine ar_istore (ls' := [some (.ref 113), some (.int (nI u)), some (.int ((nI q) &&& ((1 <<< ((nI p) &&& 31)) ^^^ (-1 : Int32)))), some (.int a), some (.int (nI p)), some (.int 0), none]) (q := 65) rfl rfl rfl rfl ?_
    exact am_Run.weak (ls' := _) (by exact ⟨rfl, ⟨rfl, ⟨rfl, ⟨rfl, ⟨rfl, ⟨rfl, trivial⟩⟩⟩⟩⟩⟩) h
theorem r_M_makePlaces_65 {d : Nat} {R : am_R} {I : Nat → Nat → Int32} {L : Nat → Nat → Int64} {u : Nat} {q : Nat} {a : Int32} {p : Nat} {k : Nat} (h : (((nI k) < (I 113 4) → (p < 6 ∧ ((((I 155 p) < 0 → ((((((nI u) >>> ((nI k) &&& 31)) &&& 1) = 1 → (am_Run am_X0 (am_meth d) 230 R 65 [some (.ref 113), some (.int (nI u)), some (.int (nI q)), some (.int a), some (.int (nI p)), some (.int (nI (k + 1))), none] [] (am_mk I L, 0, 0))) ∧ (¬ (((nI u) >>> ((nI k) &&& 31)) &&& 1) = 1 → (k < 20 ∧ ((((((I 153 k) >>> ((nI p) &&& 31)) &&& 1) = 0 → (am_Run am_X0 (am_meth d) 230 R 65 [some (.ref 113), some (.int (nI u)), some (.int (nI q)), some (.int a), some (.int (nI p)), some (.int (nI (k + 1))), none] [] (am_mk I L, 0, 0))) ∧ (¬ (((I 153 k) >>> ((nI p) &&& 31)) &&& 1) = 0 → (∃ j_7 : Nat, j_7 < 120 ∧ ((nI k) * 6) + (nI p) = nI j_7 ∧ (am_meth d 231 [.ref 113, .int ((nI u) ||| (1 <<< ((nI k) &&& 31))), .int (nI q)] (am_mk I L, 0, 0) (am_ri (fun z_10 I_11 L_12 => ((((10000 - (I 154 j_7)) + z_10) = a → (∀ I_14 : Nat → Nat → Int32, I_14 = va_up I_11 155 (upd (I_11 155) p (nI k)) → (∀ I_16 : Nat → Nat → Int32, I_16 = va_up I_14 113 (upd (I_14 113) 50 ((I_14 113 50) + (10000 - (10000 - (I 154 j_7))))) → (∀ I_18 : Nat → Nat → Int32, I_18 = va_up I_16 113 (upd (I_16 113) 51 ((I_16 113 51) + 1)) → (am_Run am_X0 (am_meth d) 230 R 65 [some (.ref 113), some (.int ((nI u) ||| (1 <<< ((nI k) &&& 31)))), some (.int (nI q)), some (.int (a - (10000 - (I 154 j_7)))), some (.int (nI p)), some (.int (nI (k + 1))), none] [] (am_mk I_18 L_12, 0, 0)))))) ∧ (¬ ((10000 - (I 154 j_7)) + z_10) = a → (am_Run am_X0 (am_meth d) 230 R 65 [some (.ref 113), some (.int (nI u)), some (.int (nI q)), some (.int a), some (.int (nI p)), some (.int (nI (k + 1))), none] [] (am_mk I_11 L_12, 0, 0)))))))))))))))) ∧ (¬ (I 155 p) < 0 → (am_Run am_X0 (am_meth d) 230 R 35 [some (.ref 113), some (.int (nI u)), some (.int (nI q)), some (.int a), some (.int (nI (p + 1))), none, none] [] (am_mk I L, 0, 0))))))) ∧ (¬ (nI k) < (I 113 4) → (am_Run am_X0 (am_meth d) 230 R 35 [some (.ref 113), some (.int (nI u)), some (.int (nI q)), some (.int a), some (.int (nI (p + 1))), none, none] [] (am_mk I L, 0, 0))))) : am_Run am_X0 (am_meth d) 230 R 65 [some (.ref 113), some (.int (nI u)), some (.int (nI q)), some (.int a), some (.int (nI p)), some (.int (nI k)), none] [] (am_mk I L, 0, 0) := by
  refine ar_iload (q := 67) rfl rfl rfl ?_
  refine ar_aload_n (j := 0) (q := 68) rfl rfl rfl rfl ?_
  refine ar_getf (v := .int (I 113 4)) (q := 71) rfl rfl mk_113 rfl rfl ?_
  obtain ⟨hA, hB⟩ := h
  refine ar_br am_d_ge (t := 204) (q := 74) rfl rfl rfl (fun c_1 => ?_) (fun c_1 => ?_)
  · have h := hB c_1
    clear hA hB
    refine ar_iinc (v := nI (p + 1)) (ls' := [some (.ref 113), some (.int (nI u)), some (.int (nI q)), some (.int a), some (.int (nI (p + 1))), some (.int (nI k)), none]) (q := 207) rfl rfl rfl (nI_1 _) rfl rfl ?_
    refine ar_goto (t := 35) rfl rfl ?_
    exact am_Run.weak (ls' := _) (by exact ⟨rfl, ⟨rfl, ⟨rfl, ⟨rfl, ⟨rfl, trivial⟩⟩⟩⟩⟩) h
  · have c_1 := Classical.not_not.mp c_1
    have h := hA c_1
    clear hA hB
    refine ar_aload_n (j := 0) (q := 75) rfl rfl rfl rfl ?_
    refine ar_getf (v := .ref 155) (q := 78) rfl rfl mk_113 rfl rfl ?_
    refine ar_iload (q := 80) rfl rfl rfl ?_
    obtain ⟨hx_2, h⟩ := h
    refine ar_iald (v := I 155 p) (q := 81) rfl mk_155 (am_inE rfl hx_2 (by decide)) (am_clE (n := 6) rfl hx_2 (by decide)) rfl ?_
    obtain ⟨hA, hB⟩ := h
    refine ar_b0 am_d_ge (t := 204) (q := 84) rfl rfl rfl (fun c_3 => ?_) (fun c_3 => ?_)
    · have h := hB c_3
      clear hA hB
      refine ar_iinc (v := nI (p + 1)) (ls' := [some (.ref 113), some (.int (nI u)), some (.int (nI q)), some (.int a), some (.int (nI (p + 1))), some (.int (nI k)), none]) (q := 207) rfl rfl rfl (nI_1 _) rfl rfl ?_
      refine ar_goto (t := 35) rfl rfl ?_
      exact am_Run.weak (ls' := _) (by exact ⟨rfl, ⟨rfl, ⟨rfl, ⟨rfl, ⟨rfl, trivial⟩⟩⟩⟩⟩) h
    · have c_3 := Classical.not_not.mp c_3
      have h := hA c_3
      clear hA hB
      refine ar_iload_n (j := 1) (q := 85) rfl rfl rfl rfl ?_
      refine ar_iload (q := 87) rfl rfl rfl ?_
      refine ar_ib (i := .ishr) (z := (nI u) >>> ((nI k) &&& 31)) (q := 88) rfl rfl rfl rfl rfl ?_
      refine ar_iconst (v := 1) (q := 89) rfl rfl rfl ?_
      refine ar_ib (i := .iand) (z := ((nI u) >>> ((nI k) &&& 31)) &&& 1) (q := 90) rfl rfl rfl rfl rfl ?_
      refine ar_iconst (v := 1) (q := 91) rfl rfl rfl ?_
      obtain ⟨hA, hB⟩ := h
      refine ar_br am_c_eq (t := 198) (q := 94) rfl rfl rfl (fun c_4 => ?_) (fun c_4 => ?_)
      · have h := hA c_4
        clear hA hB
        refine ar_iinc (v := nI (k + 1)) (ls' := [some (.ref 113), some (.int (nI u)), some (.int (nI q)), some (.int a), some (.int (nI p)), some (.int (nI (k + 1))), none]) (q := 201) rfl rfl rfl (nI_1 _) rfl rfl ?_
        refine ar_goto (t := 65) rfl rfl ?_
        exact am_Run.weak (ls' := _) (by exact ⟨rfl, ⟨rfl, ⟨rfl, ⟨rfl, ⟨rfl, ⟨rfl, trivial⟩⟩⟩⟩⟩⟩) h
      · have h := hB c_4
        clear hA hB
        refine ar_aload_n (j := 0) (q := 95) rfl rfl rfl rfl ?_
        refine ar_getf (v := .ref 153) (q := 98) rfl rfl mk_113 rfl rfl ?_
        refine ar_iload (q := 100) rfl rfl rfl ?_
        obtain ⟨hx_5, h⟩ := h
        refine ar_iald (v := I 153 k) (q := 101) rfl mk_153 (am_inE rfl hx_5 (by decide)) (am_clE (n := 20) rfl hx_5 (by decide)) rfl ?_
        refine ar_iload (q := 103) rfl rfl rfl ?_
        refine ar_ib (i := .ishr) (z := (I 153 k) >>> ((nI p) &&& 31)) (q := 104) rfl rfl rfl rfl rfl ?_
        refine ar_iconst (v := 1) (q := 105) rfl rfl rfl ?_
        refine ar_ib (i := .iand) (z := ((I 153 k) >>> ((nI p) &&& 31)) &&& 1) (q := 106) rfl rfl rfl rfl rfl ?_
        obtain ⟨hA, hB⟩ := h
        refine ar_b0 am_c_ne (t := 112) (q := 109) rfl rfl rfl (fun c_6 => ?_) (fun c_6 => ?_)
        · have h := hB c_6
          clear hA hB
          refine ar_sipush (v := 10000) (q := 115) rfl rfl rfl ?_
          refine ar_aload_n (j := 0) (q := 116) rfl rfl rfl rfl ?_
          refine ar_getf (v := .ref 154) (q := 119) rfl rfl mk_113 rfl rfl ?_
          refine ar_iload (q := 121) rfl rfl rfl ?_
          refine ar_bipush (v := 6) (q := 123) rfl rfl rfl ?_
          refine ar_ib (i := .imul) (z := (nI k) * 6) (q := 124) rfl rfl rfl rfl rfl ?_
          refine ar_iload (q := 126) rfl rfl rfl ?_
          refine ar_ib (i := .iadd) (z := ((nI k) * 6) + (nI p)) (q := 127) rfl rfl rfl rfl rfl ?_
          obtain ⟨j_7, hx_8, hi_9, h⟩ := h
          refine ar_iald (v := I 154 j_7) (q := 128) rfl mk_154 (am_inE hi_9 hx_8 (by decide)) (am_clE (n := 120) hi_9 hx_8 (by decide)) rfl ?_
          refine ar_ib (i := .isub) (z := 10000 - (I 154 j_7)) (q := 129) rfl rfl rfl rfl rfl ?_
          refine ar_istore (ls' := [some (.ref 113), some (.int (nI u)), some (.int (nI q)), some (.int a), some (.int (nI p)), some (.int (nI k)), some (.int (10000 - (I 154 j_7)))]) (q := 131) rfl rfl rfl rfl ?_
          refine ar_iload (q := 133) rfl rfl rfl ?_
          refine ar_aload_n (j := 0) (q := 134) rfl rfl rfl rfl ?_
          refine ar_iload_n (j := 1) (q := 135) rfl rfl rfl rfl ?_
          refine ar_iconst (v := 1) (q := 136) rfl rfl rfl ?_
          refine ar_iload (q := 138) rfl rfl rfl ?_
          refine ar_ib (i := .ishl) (z := 1 <<< ((nI k) &&& 31)) (q := 139) rfl rfl rfl rfl rfl ?_
          refine ar_ib (i := .ior) (z := (nI u) ||| (1 <<< ((nI k) &&& 31))) (q := 140) rfl rfl rfl rfl rfl ?_
          refine ar_iload_n (j := 2) (q := 141) rfl rfl rfl rfl ?_
          refine ar_invv (as := [.int ((nI u) ||| (1 <<< ((nI k) &&& 31))), .int (nI q)]) (rest := [.int (10000 - (I 154 j_7))]) (b2 := (0, 0)) (b3 := (0, 0)) (q := 144) rfl rfl rfl rfl mk_113 rfl rfl rfl rfl rfl ?_
          refine am_meth_mono d _ _ _ _ _ (fun v9 m9 h9 => ?_) h
          obtain ⟨z_10, I_11, L_12, rfl, rfl, h⟩ := h9
          show am_Run am_X0 (am_meth d) 230 R 144 [some (.ref 113), some (.int (nI u)), some (.int (nI q)), some (.int a), some (.int (nI p)), some (.int (nI k)), some (.int (10000 - (I 154 j_7)))] [.int z_10, .int (10000 - (I 154 j_7))] (am_mk I_11 L_12, 0, 0)
          refine ar_ib (i := .iadd) (z := (10000 - (I 154 j_7)) + z_10) (q := 145) rfl rfl rfl rfl rfl ?_
          refine ar_iload_n (j := 3) (q := 146) rfl rfl rfl rfl ?_
          obtain ⟨hA, hB⟩ := h
          refine ar_br am_c_eq (t := 152) (q := 149) rfl rfl rfl (fun c_13 => ?_) (fun c_13 => ?_)
          · have h := hA c_13
            clear hA hB
            refine ar_aload_n (j := 0) (q := 153) rfl rfl rfl rfl ?_
            refine ar_getf (v := .ref 155) (q := 156) rfl rfl mk_113 rfl rfl ?_
            refine ar_iload (q := 158) rfl rfl rfl ?_
            refine ar_iload (q := 160) rfl rfl rfl ?_
            obtain ⟨I_14, hI_15⟩ : ∃ z : Nat → Nat → Int32, z = va_up I_11 155 (upd (I_11 155) p (nI k)) := ⟨_, rfl⟩
            have h := h I_14 hI_15
            refine ar_iast (hp2 := am_mk I_14 L_12) (q := 161) rfl mk_155 (am_inE rfl hx_2 (by decide)) (by rw [am_clT (n := 6) rfl hx_2 (by decide), hI_15]; exact mk_s155) rfl ?_
            refine ar_iload_n (j := 1) (q := 162) rfl rfl rfl rfl ?_
            refine ar_iconst (v := 1) (q := 163) rfl rfl rfl ?_
            refine ar_iload (q := 165) rfl rfl rfl ?_
            refine ar_ib (i := .ishl) (z := 1 <<< ((nI k) &&& 31)) (q := 166) rfl rfl rfl rfl rfl ?_
            refine ar_ib (i := .ior) (z := (nI u) ||| (1 <<< ((nI k) &&& 31))) (q := 167) rfl rfl rfl rfl rfl ?_
            refine ar_istore_n (j := 1) (ls' := [some (.ref 113), some (.int ((nI u) ||| (1 <<< ((nI k) &&& 31)))), some (.int (nI q)), some (.int a), some (.int (nI p)), some (.int (nI k)), some (.int (10000 - (I 154 j_7)))]) (q := 168) rfl rfl rfl rfl rfl ?_
            refine ar_iload_n (j := 3) (q := 169) rfl rfl rfl rfl ?_
            refine ar_iload (q := 171) rfl rfl rfl ?_
            refine ar_ib (i := .isub) (z := a - (10000 - (I 154 j_7))) (q := 172) rfl rfl rfl rfl rfl ?_
            refine ar_istore_n (j := 3) (ls' := [some (.ref 113), some (.int ((nI u) ||| (1 <<< ((nI k) &&& 31)))), some (.int (nI q)), some (.int (a - (10000 - (I 154 j_7)))), some (.int (nI p)), some (.int (nI k)), some (.int (10000 - (I 154 j_7)))]) (q := 173) rfl rfl rfl rfl rfl ?_
            refine ar_aload_n (j := 0) (q := 174) rfl rfl rfl rfl ?_
            refine ar_st (i := .dup) (n := 1) (st' := [.ref 113, .ref 113]) (q := 175) rfl rfl rfl rfl ?_
            refine ar_getf (v := .int (I_14 113 50)) (q := 178) rfl rfl mk_113 rfl rfl ?_
            refine ar_sipush (v := 10000) (q := 181) rfl rfl rfl ?_
            refine ar_iload (q := 183) rfl rfl rfl ?_
            refine ar_ib (i := .isub) (z := 10000 - (10000 - (I 154 j_7))) (q := 184) rfl rfl rfl rfl rfl ?_
            refine ar_ib (i := .iadd) (z := (I_14 113 50) + (10000 - (10000 - (I 154 j_7)))) (q := 185) rfl rfl rfl rfl rfl ?_
            obtain ⟨I_16, hI_17⟩ : ∃ z : Nat → Nat → Int32, z = va_up I_14 113 (upd (I_14 113) 50 ((I_14 113 50) + (10000 - (10000 - (I 154 j_7))))) := ⟨_, rfl⟩
            have h := h I_16 hI_17
            refine ar_putf (hp2 := am_mk I_16 L_12) (q := 188) rfl rfl mk_113 rfl (by rw [hI_17]; exact mk_p113_50) rfl ?_
            refine ar_aload_n (j := 0) (q := 189) rfl rfl rfl rfl ?_
            refine ar_st (i := .dup) (n := 1) (st' := [.ref 113, .ref 113]) (q := 190) rfl rfl rfl rfl ?_
            refine ar_getf (v := .int (I_16 113 51)) (q := 193) rfl rfl mk_113 rfl rfl ?_
            refine ar_iconst (v := 1) (q := 194) rfl rfl rfl ?_
            refine ar_ib (i := .iadd) (z := (I_16 113 51) + 1) (q := 195) rfl rfl rfl rfl rfl ?_
            obtain ⟨I_18, hI_19⟩ : ∃ z : Nat → Nat → Int32, z = va_up I_16 113 (upd (I_16 113) 51 ((I_16 113 51) + 1)) := ⟨_, rfl⟩
            have h := h I_18 hI_19
            refine ar_putf (hp2 := am_mk I_18 L_12) (q := 198) rfl rfl mk_113 rfl (by rw [hI_19]; exact mk_p113_51) rfl ?_
            refine ar_iinc (v := nI (k + 1)) (ls' := [some (.ref 113), some (.int ((nI u) ||| (1 <<< ((nI k) &&& 31)))), some (.int (nI q)), some (.int (a - (10000 - (I 154 j_7)))), some (.int (nI p)), some (.int (nI (k + 1))), some (.int (10000 - (I 154 j_7)))]) (q := 201) rfl rfl rfl (nI_1 _) rfl rfl ?_
            refine ar_goto (t := 65) rfl rfl ?_
            exact am_Run.weak (ls' := _) (by exact ⟨rfl, ⟨rfl, ⟨rfl, ⟨rfl, ⟨rfl, ⟨rfl, trivial⟩⟩⟩⟩⟩⟩) h
          · have h := hB c_13
            clear hA hB
            refine ar_goto (t := 198) rfl rfl ?_
            refine ar_iinc (v := nI (k + 1)) (ls' := [some (.ref 113), some (.int (nI u)), some (.int (nI q)), some (.int a), some (.int (nI p)), some (.int (nI (k + 1))), some (.int (10000 - (I 154 j_7)))]) (q := 201) rfl rfl rfl (nI_1 _) rfl rfl ?_
            refine ar_goto (t := 65) rfl rfl ?_
            exact am_Run.weak (ls' := _) (by exact ⟨rfl, ⟨rfl, ⟨rfl, ⟨rfl, ⟨rfl, ⟨rfl, trivial⟩⟩⟩⟩⟩⟩) h
        · have c_6 := Classical.not_not.mp c_6
          have h := hA c_6
          clear hA hB
          refine ar_goto (t := 198) rfl rfl ?_
          refine ar_iinc (v := nI (k + 1)) (ls' := [some (.ref 113), some (.int (nI u)), some (.int (nI q)), some (.int a), some (.int (nI p)), some (.int (nI (k + 1))), none]) (q := 201) rfl rfl rfl (nI_1 _) rfl rfl ?_
          refine ar_goto (t := 65) rfl rfl ?_
          exact am_Run.weak (ls' := _) (by exact ⟨rfl, ⟨rfl, ⟨rfl, ⟨rfl, ⟨rfl, ⟨rfl, trivial⟩⟩⟩⟩⟩⟩) h
theorem r_M_place_0 {d : Nat} {R : am_R} {I : Nat → Nat → Int32} {L : Nat → Nat → Int64} {x : Int32} (h : am_meth d 215 [.ref 113] (am_mk I L, 0, 0) (am_ri (fun z_1 I_2 L_3 => ((z_1 < 0 → (am_meth d 151 [.ref 113, .int z_1] (am_mk I_2 L_3, 0, 0) (am_ri (fun z_5 I_6 L_7 => R (some (.int z_5)) (am_mk I_6 L_7, 0, 0))))) ∧ (¬ z_1 < 0 → (((x < 0 → (((x = 10 → (am_meth d 230 [.ref 113] (am_mk I_2 L_3, 0, 0) (am_rv (fun I_10 L_11 => R (some (.int (I_10 113 50))) (am_mk I_10 L_11, 0, 0))))) ∧ (¬ x = 10 → (((x = 11 → (am_meth d 230 [.ref 113] (am_mk I_2 L_3, 0, 0) (am_rv (fun I_13 L_14 => R (some (.int (I_13 113 51))) (am_mk I_13 L_14, 0, 0))))) ∧ (¬ x = 11 → (am_meth d 151 [.ref 113, .int (-2 : Int32)] (am_mk I_2 L_3, 0, 0) (am_ri (fun z_15 I_16 L_17 => R (some (.int z_15)) (am_mk I_16 L_17, 0, 0))))))))))) ∧ (¬ x < 0 → (((x < (I_2 113 39) → (am_meth d 230 [.ref 113] (am_mk I_2 L_3, 0, 0) (am_rv (fun I_19 L_20 => ((x = 10 → (R (some (.int (I_19 113 50))) (am_mk I_19 L_20, 0, 0))) ∧ (¬ x = 10 → (((x = 11 → (R (some (.int (I_19 113 51))) (am_mk I_19 L_20, 0, 0))) ∧ (¬ x = 11 → (∃ j_23 : Nat, j_23 < 6 ∧ x = nI j_23 ∧ (R (some (.int (I_19 155 j_23))) (am_mk I_19 L_20, 0, 0)))))))))))) ∧ (¬ x < (I_2 113 39) → (((x = 10 → (am_meth d 230 [.ref 113] (am_mk I_2 L_3, 0, 0) (am_rv (fun I_27 L_28 => R (some (.int (I_27 113 50))) (am_mk I_27 L_28, 0, 0))))) ∧ (¬ x = 10 → (((x = 11 → (am_meth d 230 [.ref 113] (am_mk I_2 L_3, 0, 0) (am_rv (fun I_30 L_31 => R (some (.int (I_30 113 51))) (am_mk I_30 L_31, 0, 0))))) ∧ (¬ x = 11 → (am_meth d 151 [.ref 113, .int (-2 : Int32)] (am_mk I_2 L_3, 0, 0) (am_ri (fun z_32 I_33 L_34 => R (some (.int z_32)) (am_mk I_33 L_34, 0, 0))))))))))))))))))))) : am_Run am_X0 (am_meth d) 229 R 0 [some (.ref 113), some (.int x), none] [] (am_mk I L, 0, 0) := by
  refine ar_aload_n (j := 0) (q := 1) rfl rfl rfl rfl ?_
  refine ar_invv (as := []) (rest := []) (b2 := (0, 0)) (b3 := (0, 0)) (q := 4) rfl rfl rfl rfl mk_113 rfl rfl rfl rfl rfl ?_
  refine am_meth_mono d _ _ _ _ _ (fun v9 m9 h9 => ?_) h
  obtain ⟨z_1, I_2, L_3, rfl, rfl, h⟩ := h9
  show am_Run am_X0 (am_meth d) 229 R 4 [some (.ref 113), some (.int x), none] [.int z_1] (am_mk I_2 L_3, 0, 0)
  refine ar_istore_n (j := 2) (ls' := [some (.ref 113), some (.int x), some (.int z_1)]) (q := 5) rfl rfl rfl rfl rfl ?_
  refine ar_iload_n (j := 2) (q := 6) rfl rfl rfl rfl ?_
  obtain ⟨hA, hB⟩ := h
  refine ar_b0 am_d_ge (t := 15) (q := 9) rfl rfl rfl (fun c_4 => ?_) (fun c_4 => ?_)
  · have h := hB c_4
    clear hA hB
    refine ar_iload_n (j := 1) (q := 16) rfl rfl rfl rfl ?_
    obtain ⟨hA, hB⟩ := h
    refine ar_b0 am_c_lt (t := 27) (q := 19) rfl rfl rfl (fun c_8 => ?_) (fun c_8 => ?_)
    · have h := hA c_8
      clear hA hB
      refine ar_iload_n (j := 1) (q := 28) rfl rfl rfl rfl ?_
      refine ar_bipush (v := 10) (q := 30) rfl rfl rfl ?_
      obtain ⟨hA, hB⟩ := h
      refine ar_br am_c_eq (t := 46) (q := 33) rfl rfl rfl (fun c_9 => ?_) (fun c_9 => ?_)
      · have h := hA c_9
        clear hA hB
        refine ar_aload_n (j := 0) (q := 47) rfl rfl rfl rfl ?_
        refine ar_invv (as := []) (rest := []) (b2 := (0, 0)) (b3 := (0, 0)) (q := 50) rfl rfl rfl rfl mk_113 rfl rfl rfl rfl rfl ?_
        refine am_meth_mono d _ _ _ _ _ (fun v9 m9 h9 => ?_) h
        obtain ⟨I_10, L_11, rfl, rfl, h⟩ := h9
        show am_Run am_X0 (am_meth d) 229 R 50 [some (.ref 113), some (.int x), some (.int z_1)] [] (am_mk I_10 L_11, 0, 0)
        refine ar_iload_n (j := 1) (q := 51) rfl rfl rfl rfl ?_
        refine ar_bipush (v := 10) (q := 53) rfl rfl rfl ?_
        refine ar_br am_c_ne (t := 61) (q := 56) rfl rfl rfl (fun c9 => absurd c_9 c9) (fun _ => ?_)
        refine ar_aload_n (j := 0) (q := 57) rfl rfl rfl rfl ?_
        refine ar_getf (v := .int (I_10 113 50)) (q := 60) rfl rfl mk_113 rfl rfl ?_
        exact ar_iret rfl rfl h
      · have h := hB c_9
        clear hA hB
        refine ar_iload_n (j := 1) (q := 34) rfl rfl rfl rfl ?_
        refine ar_bipush (v := 11) (q := 36) rfl rfl rfl ?_
        obtain ⟨hA, hB⟩ := h
        refine ar_br am_c_eq (t := 46) (q := 39) rfl rfl rfl (fun c_12 => ?_) (fun c_12 => ?_)
        · have h := hA c_12
          clear hA hB
          refine ar_aload_n (j := 0) (q := 47) rfl rfl rfl rfl ?_
          refine ar_invv (as := []) (rest := []) (b2 := (0, 0)) (b3 := (0, 0)) (q := 50) rfl rfl rfl rfl mk_113 rfl rfl rfl rfl rfl ?_
          refine am_meth_mono d _ _ _ _ _ (fun v9 m9 h9 => ?_) h
          obtain ⟨I_13, L_14, rfl, rfl, h⟩ := h9
          show am_Run am_X0 (am_meth d) 229 R 50 [some (.ref 113), some (.int x), some (.int z_1)] [] (am_mk I_13 L_14, 0, 0)
          refine ar_iload_n (j := 1) (q := 51) rfl rfl rfl rfl ?_
          refine ar_bipush (v := 10) (q := 53) rfl rfl rfl ?_
          refine ar_br am_c_ne (t := 61) (q := 56) rfl rfl rfl (fun _ => ?_) (fun c9 => absurd c_9 c9)
          refine ar_iload_n (j := 1) (q := 62) rfl rfl rfl rfl ?_
          refine ar_bipush (v := 11) (q := 64) rfl rfl rfl ?_
          refine ar_br am_c_ne (t := 72) (q := 67) rfl rfl rfl (fun c9 => absurd c_12 c9) (fun _ => ?_)
          refine ar_aload_n (j := 0) (q := 68) rfl rfl rfl rfl ?_
          refine ar_getf (v := .int (I_13 113 51)) (q := 71) rfl rfl mk_113 rfl rfl ?_
          exact ar_iret rfl rfl h
        · have h := hB c_12
          clear hA hB
          refine ar_aload_n (j := 0) (q := 40) rfl rfl rfl rfl ?_
          refine ar_bipush (v := (-2 : Int32)) (q := 42) rfl rfl rfl ?_
          refine ar_invv (as := [.int (-2 : Int32)]) (rest := []) (b2 := (0, 0)) (b3 := (0, 0)) (q := 45) rfl rfl rfl rfl mk_113 rfl rfl rfl rfl rfl ?_
          refine am_meth_mono d _ _ _ _ _ (fun v9 m9 h9 => ?_) h
          obtain ⟨z_15, I_16, L_17, rfl, rfl, h⟩ := h9
          show am_Run am_X0 (am_meth d) 229 R 45 [some (.ref 113), some (.int x), some (.int z_1)] [.int z_15] (am_mk I_16 L_17, 0, 0)
          exact ar_iret rfl rfl h
    · have h := hB c_8
      clear hA hB
      refine ar_iload_n (j := 1) (q := 20) rfl rfl rfl rfl ?_
      refine ar_aload_n (j := 0) (q := 21) rfl rfl rfl rfl ?_
      refine ar_getf (v := .int (I_2 113 39)) (q := 24) rfl rfl mk_113 rfl rfl ?_
      obtain ⟨hA, hB⟩ := h
      refine ar_br am_c_lt (t := 46) (q := 27) rfl rfl rfl (fun c_18 => ?_) (fun c_18 => ?_)
      · have h := hA c_18
        clear hA hB
        refine ar_aload_n (j := 0) (q := 47) rfl rfl rfl rfl ?_
        refine ar_invv (as := []) (rest := []) (b2 := (0, 0)) (b3 := (0, 0)) (q := 50) rfl rfl rfl rfl mk_113 rfl rfl rfl rfl rfl ?_
        refine am_meth_mono d _ _ _ _ _ (fun v9 m9 h9 => ?_) h
        obtain ⟨I_19, L_20, rfl, rfl, h⟩ := h9
        show am_Run am_X0 (am_meth d) 229 R 50 [some (.ref 113), some (.int x), some (.int z_1)] [] (am_mk I_19 L_20, 0, 0)
        refine ar_iload_n (j := 1) (q := 51) rfl rfl rfl rfl ?_
        refine ar_bipush (v := 10) (q := 53) rfl rfl rfl ?_
        obtain ⟨hA, hB⟩ := h
        refine ar_br am_c_ne (t := 61) (q := 56) rfl rfl rfl (fun c_21 => ?_) (fun c_21 => ?_)
        · have h := hB c_21
          clear hA hB
          refine ar_iload_n (j := 1) (q := 62) rfl rfl rfl rfl ?_
          refine ar_bipush (v := 11) (q := 64) rfl rfl rfl ?_
          obtain ⟨hA, hB⟩ := h
          refine ar_br am_c_ne (t := 72) (q := 67) rfl rfl rfl (fun c_22 => ?_) (fun c_22 => ?_)
          · have h := hB c_22
            clear hA hB
            refine ar_aload_n (j := 0) (q := 73) rfl rfl rfl rfl ?_
            refine ar_getf (v := .ref 155) (q := 76) rfl rfl mk_113 rfl rfl ?_
            refine ar_iload_n (j := 1) (q := 77) rfl rfl rfl rfl ?_
            obtain ⟨j_23, hx_24, hi_25, h⟩ := h
            refine ar_iald (v := I_19 155 j_23) (q := 78) rfl mk_155 (am_inE hi_25 hx_24 (by decide)) (am_clE (n := 6) hi_25 hx_24 (by decide)) rfl ?_
            exact ar_iret rfl rfl h
          · have c_22 := Classical.not_not.mp c_22
            have h := hA c_22
            clear hA hB
            refine ar_aload_n (j := 0) (q := 68) rfl rfl rfl rfl ?_
            refine ar_getf (v := .int (I_19 113 51)) (q := 71) rfl rfl mk_113 rfl rfl ?_
            exact ar_iret rfl rfl h
        · have c_21 := Classical.not_not.mp c_21
          have h := hA c_21
          clear hA hB
          refine ar_aload_n (j := 0) (q := 57) rfl rfl rfl rfl ?_
          refine ar_getf (v := .int (I_19 113 50)) (q := 60) rfl rfl mk_113 rfl rfl ?_
          exact ar_iret rfl rfl h
      · have h := hB c_18
        clear hA hB
        refine ar_iload_n (j := 1) (q := 28) rfl rfl rfl rfl ?_
        refine ar_bipush (v := 10) (q := 30) rfl rfl rfl ?_
        obtain ⟨hA, hB⟩ := h
        refine ar_br am_c_eq (t := 46) (q := 33) rfl rfl rfl (fun c_26 => ?_) (fun c_26 => ?_)
        · have h := hA c_26
          clear hA hB
          refine ar_aload_n (j := 0) (q := 47) rfl rfl rfl rfl ?_
          refine ar_invv (as := []) (rest := []) (b2 := (0, 0)) (b3 := (0, 0)) (q := 50) rfl rfl rfl rfl mk_113 rfl rfl rfl rfl rfl ?_
          refine am_meth_mono d _ _ _ _ _ (fun v9 m9 h9 => ?_) h
          obtain ⟨I_27, L_28, rfl, rfl, h⟩ := h9
          show am_Run am_X0 (am_meth d) 229 R 50 [some (.ref 113), some (.int x), some (.int z_1)] [] (am_mk I_27 L_28, 0, 0)
          refine ar_iload_n (j := 1) (q := 51) rfl rfl rfl rfl ?_
          refine ar_bipush (v := 10) (q := 53) rfl rfl rfl ?_
          refine ar_br am_c_ne (t := 61) (q := 56) rfl rfl rfl (fun c9 => absurd c_26 c9) (fun _ => ?_)
          refine ar_aload_n (j := 0) (q := 57) rfl rfl rfl rfl ?_
          refine ar_getf (v := .int (I_27 113 50)) (q := 60) rfl rfl mk_113 rfl rfl ?_
          exact ar_iret rfl rfl h
        · have h := hB c_26
          clear hA hB
          refine ar_iload_n (j := 1) (q := 34) rfl rfl rfl rfl ?_
          refine ar_bipush (v := 11) (q := 36) rfl rfl rfl ?_
          obtain ⟨hA, hB⟩ := h
          refine ar_br am_c_eq (t := 46) (q := 39) rfl rfl rfl (fun c_29 => ?_) (fun c_29 => ?_)
          · have h := hA c_29
            clear hA hB
            refine ar_aload_n (j := 0) (q := 47) rfl rfl rfl rfl ?_
            refine ar_invv (as := []) (rest := []) (b2 := (0, 0)) (b3 := (0, 0)) (q := 50) rfl rfl rfl rfl mk_113 rfl rfl rfl rfl rfl ?_
            refine am_meth_mono d _ _ _ _ _ (fun v9 m9 h9 => ?_) h
            obtain ⟨I_30, L_31, rfl, rfl, h⟩ := h9
            show am_Run am_X0 (am_meth d) 229 R 50 [some (.ref 113), some (.int x), some (.int z_1)] [] (am_mk I_30 L_31, 0, 0)
            refine ar_iload_n (j := 1) (q := 51) rfl rfl rfl rfl ?_
            refine ar_bipush (v := 10) (q := 53) rfl rfl rfl ?_
            refine ar_br am_c_ne (t := 61) (q := 56) rfl rfl rfl (fun _ => ?_) (fun c9 => absurd c_26 c9)
            refine ar_iload_n (j := 1) (q := 62) rfl rfl rfl rfl ?_
            refine ar_bipush (v := 11) (q := 64) rfl rfl rfl ?_
            refine ar_br am_c_ne (t := 72) (q := 67) rfl rfl rfl (fun c9 => absurd c_29 c9) (fun _ => ?_)
            refine ar_aload_n (j := 0) (q := 68) rfl rfl rfl rfl ?_
            refine ar_getf (v := .int (I_30 113 51)) (q := 71) rfl rfl mk_113 rfl rfl ?_
            exact ar_iret rfl rfl h
          · have h := hB c_29
            clear hA hB
            refine ar_aload_n (j := 0) (q := 40) rfl rfl rfl rfl ?_
            refine ar_bipush (v := (-2 : Int32)) (q := 42) rfl rfl rfl ?_
            refine ar_invv (as := [.int (-2 : Int32)]) (rest := []) (b2 := (0, 0)) (b3 := (0, 0)) (q := 45) rfl rfl rfl rfl mk_113 rfl rfl rfl rfl rfl ?_
            refine am_meth_mono d _ _ _ _ _ (fun v9 m9 h9 => ?_) h
            obtain ⟨z_32, I_33, L_34, rfl, rfl, h⟩ := h9
            show am_Run am_X0 (am_meth d) 229 R 45 [some (.ref 113), some (.int x), some (.int z_1)] [.int z_32] (am_mk I_33 L_34, 0, 0)
            exact ar_iret rfl rfl h
  · have c_4 := Classical.not_not.mp c_4
    have h := hA c_4
    clear hA hB
    refine ar_aload_n (j := 0) (q := 10) rfl rfl rfl rfl ?_
    refine ar_iload_n (j := 2) (q := 11) rfl rfl rfl rfl ?_
    refine ar_invv (as := [.int z_1]) (rest := []) (b2 := (0, 0)) (b3 := (0, 0)) (q := 14) rfl rfl rfl rfl mk_113 rfl rfl rfl rfl rfl ?_
    refine am_meth_mono d _ _ _ _ _ (fun v9 m9 h9 => ?_) h
    obtain ⟨z_5, I_6, L_7, rfl, rfl, h⟩ := h9
    show am_Run am_X0 (am_meth d) 229 R 14 [some (.ref 113), some (.int x), some (.int z_1)] [.int z_5] (am_mk I_6 L_7, 0, 0)
    exact ar_iret rfl rfl h
