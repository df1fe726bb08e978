theorem r_Match_mayTake_0 {d : Nat} {R : am_R} {I : Nat → Nat → Int32} {L : Nat → Nat → Int64} {k : Nat} {p : Nat} (h : p < 6 ∧ ((((((I 109 p) >>> ((nI k) &&& 31)) &&& 1) = 1 → (R (some (.int 1)) (am_mk I L, 0, 0))) ∧ (¬ (((I 109 p) >>> ((nI k) &&& 31)) &&& 1) = 1 → (R (some (.int 0)) (am_mk I L, 0, 0)))))) : am_Run am_X0 (am_meth d) 64 R 0 [some (.ref 106), some (.int (nI k)), some (.int (nI p))] [] (am_mk I L, 0, 0) := by
  refine ar_aload_n (j := 0) (q := 1) rfl rfl rfl rfl ?_
  refine ar_getf (v := .ref 109) (q := 4) rfl rfl mk_106 rfl rfl ?_
  refine ar_iload_n (j := 2) (q := 5) rfl rfl rfl rfl ?_
  obtain ⟨hx_1, h⟩ := h
  refine ar_iald (v := I 109 p) (q := 6) rfl mk_109 (am_inE rfl hx_1 (by decide)) (am_clE (n := 6) rfl hx_1 (by decide)) rfl ?_
  refine ar_iload_n (j := 1) (q := 7) rfl rfl rfl rfl ?_
  refine ar_ib (i := .ishr) (z := (I 109 p) >>> ((nI k) &&& 31)) (q := 8) rfl rfl rfl rfl rfl ?_
  refine ar_iconst (v := 1) (q := 9) rfl rfl rfl ?_
  refine ar_ib (i := .iand) (z := ((I 109 p) >>> ((nI k) &&& 31)) &&& 1) (q := 10) rfl rfl rfl rfl rfl ?_
  refine ar_iconst (v := 1) (q := 11) rfl rfl rfl ?_
  obtain ⟨hA, hB⟩ := h
  refine ar_br am_c_ne (t := 18) (q := 14) rfl rfl rfl (fun c_2 => ?_) (fun c_2 => ?_)
  · have h := hB c_2
    clear hA hB
    refine ar_iconst (v := 0) (q := 19) rfl rfl rfl ?_
    exact ar_zret rfl rfl (Or.inl rfl) h
  · have c_2 := Classical.not_not.mp c_2
    have h := hA c_2
    clear hA hB
    refine ar_iconst (v := 1) (q := 15) rfl rfl rfl ?_
    refine ar_goto (t := 19) rfl rfl ?_
    exact ar_zret rfl rfl (Or.inr rfl) h
theorem ok_Ma_mayTake {d : Nat} {R : am_R} {I : Nat → Nat → Int32} {L : Nat → Nat → Int64} {x y : Int32} {k p : Nat} (hd : 1 ≤ d) (hx : x = nI k) (hy : y = nI p) (hk : k < 32) (hp : p < 6) (h1 : am_bt (I 109 p) k = true → R (some (.int 1)) (am_mk I L, 0, 0)) (h0 : ¬ (am_bt (I 109 p) k = true) → R (some (.int 0)) (am_mk I L, 0, 0)) : am_meth d 64 [.ref 106, .int x, .int y] (am_mk I L, 0, 0) R := by
  obtain ⟨d, rfl⟩ : ∃ e, d = e + 1 := ⟨d - 1, by omega⟩
  subst hx; subst hy
  refine ar_in rfl rfl rfl (r_Match_mayTake_0 ⟨hp, ?_⟩)
  rw [bt_t hk]
  exact ⟨h1, h0⟩
theorem r_Match_survey_0 {d : Nat} (hd : 1 ≤ d) {R : am_R} {I : Nat → Nat → Int32} {L : Nat → Nat → Int64}  (h : am_meth d 76 [.ref 74, .int (I 66 0)] (am_mk I L, 0, 0) (am_rv (fun I_1 L_2 => ∀ I_3 : Nat → Nat → Int32, I_3 = va_up I_1 106 (upd (I_1 106) 9 (if 6 < I_1 95 0 then 6 else I_1 95 0)) → (am_Run am_X0 (am_meth d) 60 R 29 [some (.ref 106), some (.ref 95), some (.int 0), none] [] (am_mk I_3 L_2, 0, 0))))) : am_Run am_X0 (am_meth d) 60 R 0 [some (.ref 106), some (.ref 95), none, none] [] (am_mk I L, 0, 0) := by
  refine ar_aload_n (j := 0) (q := 1) rfl rfl rfl rfl ?_
  refine ar_getf (v := .ref 74) (q := 4) rfl rfl mk_106 rfl rfl ?_
  refine ar_aload_n (j := 0) (q := 5) rfl rfl rfl rfl ?_
  refine ar_getf (v := .ref 66) (q := 8) rfl rfl mk_106 rfl rfl ?_
  refine ar_getf (v := .int (I 66 0)) (q := 11) rfl rfl mk_66 rfl rfl ?_
  refine ar_invv (as := [.int (I 66 0)]) (rest := []) (b2 := (0, 0)) (b3 := (0, 0)) (q := 14) rfl rfl rfl rfl mk_74 rfl rfl rfl rfl rfl ?_
  refine am_meth_mono d _ _ _ _ _ (fun v9 m9 h9 => ?_) h
  obtain ⟨I_1, L_2, rfl, rfl, h⟩ := h9
  show am_Run am_X0 (am_meth d) 60 R 14 [some (.ref 106), some (.ref 95), none, none] [] (am_mk I_1 L_2, 0, 0)
  refine ar_aload_n (j := 0) (q := 15) rfl rfl rfl rfl ?_
  refine ar_aload_n (j := 1) (q := 16) rfl rfl rfl rfl ?_
  refine ar_getf (v := .int (I_1 95 0)) (q := 19) rfl rfl mk_95 rfl rfl ?_
  refine ar_bipush (v := 6) (q := 21) rfl rfl rfl ?_
  refine ar_invs (as := [.int (I_1 95 0), .int 6]) (rest := [.ref 106]) (b2 := (0, 0)) (b3 := (0, 0)) (q := 24) rfl rfl rfl rfl rfl rfl rfl rfl rfl ?_
  obtain ⟨d9, rfl⟩ : ∃ d9, d = d9 + 1 := ⟨d - 1, by omega⟩
  refine ar_min ?_
  show am_Run am_X0 (am_meth (d9 + 1)) 60 R 24 [some (.ref 106), some (.ref 95), none, none] [.int (if 6 < I_1 95 0 then 6 else I_1 95 0), .ref 106] (am_mk I_1 L_2, 0, 0)
  generalize hd9 : d9 + 1 = d at *
  obtain ⟨I_3, hI_4⟩ : ∃ z : Nat → Nat → Int32, z = va_up I_1 106 (upd (I_1 106) 9 (if 6 < I_1 95 0 then 6 else I_1 95 0)) := ⟨_, rfl⟩
  have h := h I_3 hI_4
  refine ar_putf (hp2 := am_mk I_3 L_2) (q := 27) rfl rfl mk_106 rfl (by rw [hI_4]; exact mk_p106_9) rfl ?_
  refine ar_iconst (v := 0) (q := 28) rfl rfl rfl ?_
  refine ar_istore_n (j := 2) (ls' := [some (.ref 106), some (.ref 95), some (.int 0), none]) (q := 29) rfl rfl rfl rfl rfl ?_
  exact am_Run.weak (ls' := _) (by exact ⟨rfl, ⟨rfl, ⟨rfl, trivial⟩⟩⟩) h
theorem r_Match_survey_29 {d : Nat} (hd : 1 ≤ d) {R : am_R} {I : Nat → Nat → Int32} {L : Nat → Nat → Int64} {p : Nat} (h : (((nI p) < (I 106 9) → ((p < 12) ∧ ((nI p < I 95 0) ∧ (p < 6 ∧ (∀ I_5 : Nat → Nat → Int32, I_5 = va_up I 108 (upd (I 108) p (I 96 p)) → (∀ I_7 : Nat → Nat → Int32, I_7 = va_up I_5 109 (upd (I_5 109) p 0) → (am_Run am_X0 (am_meth d) 60 R 29 [some (.ref 106), some (.ref 95), some (.int (nI (p + 1))), none] [] (am_mk I_7 L, 0, 0)))))))) ∧ (¬ (nI p) < (I 106 9) → (am_Run am_X0 (am_meth d) 60 R 63 [some (.ref 106), none, some (.int 0), none] [] (am_mk I L, 0, 0))))) : am_Run am_X0 (am_meth d) 60 R 29 [some (.ref 106), some (.ref 95), some (.int (nI p)), none] [] (am_mk I L, 0, 0) := by
  refine ar_iload_n (j := 2) (q := 30) rfl rfl rfl rfl ?_
  refine ar_aload_n (j := 0) (q := 31) rfl rfl rfl rfl ?_
  refine ar_getf (v := .int (I 106 9)) (q := 34) rfl rfl mk_106 rfl rfl ?_
  obtain ⟨hA, hB⟩ := h
  refine ar_br am_d_ge (t := 61) (q := 37) rfl rfl rfl (fun c_1 => ?_) (fun c_1 => ?_)
  · have h := hB c_1
    clear hA hB
    refine ar_iconst (v := 0) (q := 62) rfl rfl rfl ?_
    refine ar_istore_n (j := 2) (ls' := [some (.ref 106), some (.ref 95), some (.int 0), none]) (q := 63) rfl rfl rfl rfl rfl ?_
    exact am_Run.weak (ls' := _) (by exact ⟨rfl, ⟨rfl, trivial⟩⟩) h
  · have c_1 := Classical.not_not.mp c_1
    have h := hA c_1
    clear hA hB
    refine ar_aload_n (j := 0) (q := 38) rfl rfl rfl rfl ?_
    refine ar_getf (v := .ref 108) (q := 41) rfl rfl mk_106 rfl rfl ?_
    refine ar_iload_n (j := 2) (q := 42) rfl rfl rfl rfl ?_
    refine ar_aload_n (j := 1) (q := 43) rfl rfl rfl rfl ?_
    refine ar_iload_n (j := 2) (q := 44) rfl rfl rfl rfl ?_
    refine ar_invv (as := [.int (nI p)]) (rest := [.int (nI p), .ref 108]) (b2 := (0, 0)) (b3 := (0, 0)) (q := 47) rfl rfl rfl rfl mk_95 rfl rfl rfl rfl rfl ?_
    obtain ⟨hp_2, h⟩ := h
    obtain ⟨hp_3, h⟩ := h
    refine ok_Ro_at_row (by omega) rfl hp_2 hp_3 ?_
    show am_Run am_X0 (am_meth d) 60 R 47 [some (.ref 106), some (.ref 95), some (.int (nI p)), none] [.int (I 96 p), .int (nI p), .ref 108] (am_mk I L, 0, 0)
    obtain ⟨hx_4, h⟩ := h
    obtain ⟨I_5, hI_6⟩ : ∃ z : Nat → Nat → Int32, z = va_up I 108 (upd (I 108) p (I 96 p)) := ⟨_, rfl⟩
    have h := h I_5 hI_6
    refine ar_iast (hp2 := am_mk I_5 L) (q := 48) rfl mk_108 (am_inE rfl hx_4 (by decide)) (by rw [am_clT (n := 6) rfl hx_4 (by decide), hI_6]; exact mk_s108) rfl ?_
    refine ar_aload_n (j := 0) (q := 49) rfl rfl rfl rfl ?_
    refine ar_getf (v := .ref 109) (q := 52) rfl rfl mk_106 rfl rfl ?_
    refine ar_iload_n (j := 2) (q := 53) rfl rfl rfl rfl ?_
    refine ar_iconst (v := 0) (q := 54) rfl rfl rfl ?_
    obtain ⟨I_7, hI_8⟩ : ∃ z : Nat → Nat → Int32, z = va_up I_5 109 (upd (I_5 109) p 0) := ⟨_, rfl⟩
    have h := h I_7 hI_8
    refine ar_iast (hp2 := am_mk I_7 L) (q := 55) rfl mk_109 (am_inE rfl hx_4 (by decide)) (by rw [am_clT (n := 6) rfl hx_4 (by decide), hI_8]; exact mk_s109) rfl ?_
    refine ar_iinc (v := nI (p + 1)) (ls' := [some (.ref 106), some (.ref 95), some (.int (nI (p + 1))), none]) (q := 58) rfl rfl rfl (nI_1 _) rfl rfl ?_
    refine ar_goto (t := 29) rfl rfl ?_
    exact am_Run.weak (ls' := _) (by exact ⟨rfl, ⟨rfl, ⟨rfl, trivial⟩⟩⟩) h
theorem r_Match_survey_63 {d : Nat} {R : am_R} {I : Nat → Nat → Int32} {L : Nat → Nat → Int64} {k : Nat} (h : (((nI k) < (I 16 0) → (am_meth d 93 [.ref 99, .int (nI k)] (am_mk I L, 0, 0) (am_rv (fun I_2 L_3 => am_Run am_X0 (am_meth d) 60 R 84 [some (.ref 106), none, some (.int (nI k)), some (.int 0)] [] (am_mk I_2 L_3, 0, 0))))) ∧ (¬ (nI k) < (I 16 0) → (R none (am_mk I L, 0, 0))))) : am_Run am_X0 (am_meth d) 60 R 63 [some (.ref 106), none, some (.int (nI k)), none] [] (am_mk I L, 0, 0) := by
  refine ar_iload_n (j := 2) (q := 64) rfl rfl rfl rfl ?_
  refine ar_aload_n (j := 0) (q := 65) rfl rfl rfl rfl ?_
  refine ar_getf (v := .ref 16) (q := 68) rfl rfl mk_106 rfl rfl ?_
  refine ar_getf (v := .int (I 16 0)) (q := 71) rfl rfl mk_16 rfl rfl ?_
  obtain ⟨hA, hB⟩ := h
  refine ar_br am_d_ge (t := 133) (q := 74) rfl rfl rfl (fun c_1 => ?_) (fun c_1 => ?_)
  · have h := hB c_1
    clear hA hB
    exact ar_vret rfl rfl h
  · have c_1 := Classical.not_not.mp c_1
    have h := hA c_1
    clear hA hB
    refine ar_aload_n (j := 0) (q := 75) rfl rfl rfl rfl ?_
    refine ar_getf (v := .ref 99) (q := 78) rfl rfl mk_106 rfl rfl ?_
    refine ar_iload_n (j := 2) (q := 79) rfl rfl rfl rfl ?_
    refine ar_invv (as := [.int (nI k)]) (rest := []) (b2 := (0, 0)) (b3 := (0, 0)) (q := 82) rfl rfl rfl rfl mk_99 rfl rfl rfl rfl rfl ?_
    refine am_meth_mono d _ _ _ _ _ (fun v9 m9 h9 => ?_) h
    obtain ⟨I_2, L_3, rfl, rfl, h⟩ := h9
    show am_Run am_X0 (am_meth d) 60 R 82 [some (.ref 106), none, some (.int (nI k)), none] [] (am_mk I_2 L_3, 0, 0)
    refine ar_iconst (v := 0) (q := 83) rfl rfl rfl ?_
    refine ar_istore_n (j := 3) (ls' := [some (.ref 106), none, some (.int (nI k)), some (.int 0)]) (q := 84) rfl rfl rfl rfl rfl ?_
    exact am_Run.weak (ls' := _) (by exact ⟨rfl, ⟨rfl, ⟨rfl, trivial⟩⟩⟩) h
theorem r_Match_survey_84 {d : Nat} {R : am_R} {I : Nat → Nat → Int32} {L : Nat → Nat → Int64} {k : Nat} {p : Nat} (h : (((nI p) < (I 106 9) → (p < 6 ∧ (am_meth d 95 [.ref 99, .int (nI k), .int (I 108 p)] (am_mk I L, 0, 0) (am_ri (fun z_3 I_4 L_5 => ((z_3 = 0 → (∀ I_7 : Nat → Nat → Int32, I_7 = va_up I_4 109 (upd (I_4 109) p ((I_4 109 p) ||| (1 <<< ((nI k) &&& 31)))) → (am_Run am_X0 (am_meth d) 60 R 84 [some (.ref 106), none, some (.int (nI k)), some (.int (nI (p + 1)))] [] (am_mk I_7 L_5, 0, 0)))) ∧ (¬ z_3 = 0 → (am_Run am_X0 (am_meth d) 60 R 84 [some (.ref 106), none, some (.int (nI k)), some (.int (nI (p + 1)))] [] (am_mk I_4 L_5, 0, 0))))))))) ∧ (¬ (nI p) < (I 106 9) → (am_Run am_X0 (am_meth d) 60 R 63 [some (.ref 106), none, some (.int (nI (k + 1))), none] [] (am_mk I L, 0, 0))))) : am_Run am_X0 (am_meth d) 60 R 84 [some (.ref 106), none, some (.int (nI k)), some (.int (nI p))] [] (am_mk I L, 0, 0) := by
  refine ar_iload_n (j := 3) (q := 85) rfl rfl rfl rfl ?_
  refine ar_aload_n (j := 0) (q := 86) rfl rfl rfl rfl ?_
  refine ar_getf (v := .int (I 106 9)) (q := 89) rfl rfl mk_106 rfl rfl ?_
  obtain ⟨hA, hB⟩ := h
  refine ar_br am_d_ge (t := 127) (q := 92) rfl rfl rfl (fun c_1 => ?_) (fun c_1 => ?_)
  · have h := hB c_1
    clear hA hB
    refine ar_iinc (v := nI (k + 1)) (ls' := [some (.ref 106), none, some (.int (nI (k + 1))), some (.int (nI p))]) (q := 130) rfl rfl rfl (nI_1 _) rfl rfl ?_
    refine ar_goto (t := 63) rfl rfl ?_
    exact am_Run.weak (ls' := _) (by exact ⟨rfl, ⟨rfl, trivial⟩⟩) h
  · have c_1 := Classical.not_not.mp c_1
    have h := hA c_1
    clear hA hB
    refine ar_aload_n (j := 0) (q := 93) rfl rfl rfl rfl ?_
    refine ar_getf (v := .ref 99) (q := 96) rfl rfl mk_106 rfl rfl ?_
    refine ar_iload_n (j := 2) (q := 97) rfl rfl rfl rfl ?_
    refine ar_aload_n (j := 0) (q := 98) rfl rfl rfl rfl ?_
    refine ar_getf (v := .ref 108) (q := 101) rfl rfl mk_106 rfl rfl ?_
    refine ar_iload_n (j := 3) (q := 102) rfl rfl rfl rfl ?_
    obtain ⟨hx_2, h⟩ := h
    refine ar_iald (v := I 108 p) (q := 103) rfl mk_108 (am_inE rfl hx_2 (by decide)) (am_clE (n := 6) rfl hx_2 (by decide)) rfl ?_
    refine ar_invv (as := [.int (nI k), .int (I 108 p)]) (rest := []) (b2 := (0, 0)) (b3 := (0, 0)) (q := 106) rfl rfl rfl rfl mk_99 rfl rfl rfl rfl rfl ?_
    refine am_meth_mono d _ _ _ _ _ (fun v9 m9 h9 => ?_) h
    obtain ⟨z_3, I_4, L_5, rfl, rfl, h⟩ := h9
    show am_Run am_X0 (am_meth d) 60 R 106 [some (.ref 106), none, some (.int (nI k)), some (.int (nI p))] [.int z_3] (am_mk I_4 L_5, 0, 0)
    obtain ⟨hA, hB⟩ := h
    refine ar_b0 am_c_ne (t := 121) (q := 109) rfl rfl rfl (fun c_6 => ?_) (fun c_6 => ?_)
    · have h := hB c_6
      clear hA hB
      refine ar_iinc (v := nI (p + 1)) (ls' := [some (.ref 106), none, some (.int (nI k)), some (.int (nI (p + 1)))]) (q := 124) rfl rfl rfl (nI_1 _) rfl rfl ?_
      refine ar_goto (t := 84) rfl rfl ?_
      exact am_Run.weak (ls' := _) (by exact ⟨rfl, ⟨rfl, ⟨rfl, trivial⟩⟩⟩) h
    · have c_6 := Classical.not_not.mp c_6
      have h := hA c_6
      clear hA hB
      refine ar_aload_n (j := 0) (q := 110) rfl rfl rfl rfl ?_
      refine ar_getf (v := .ref 109) (q := 113) rfl rfl mk_106 rfl rfl ?_
      refine ar_iload_n (j := 3) (q := 114) rfl rfl rfl rfl ?_
      refine ar_st (i := .dup2) (n := 1) (st' := [.int (nI p), .ref 109, .int (nI p), .ref 109]) (q := 115) rfl rfl rfl rfl ?_
      refine ar_iald (v := I_4 109 p) (q := 116) rfl mk_109 (am_inE rfl hx_2 (by decide)) (am_clE (n := 6) rfl hx_2 (by decide)) rfl ?_
      refine ar_iconst (v := 1) (q := 117) rfl rfl rfl ?_
      refine ar_iload_n (j := 2) (q := 118) rfl rfl rfl rfl ?_
      refine ar_ib (i := .ishl) (z := 1 <<< ((nI k) &&& 31)) (q := 119) rfl rfl rfl rfl rfl ?_
      refine ar_ib (i := .ior) (z := (I_4 109 p) ||| (1 <<< ((nI k) &&& 31))) (q := 120) rfl rfl rfl rfl rfl ?_
      obtain ⟨I_7, hI_8⟩ : ∃ z : Nat → Nat → Int32, z = va_up I_4 109 (upd (I_4 109) p ((I_4 109 p) ||| (1 <<< ((nI k) &&& 31)))) := ⟨_, rfl⟩
      have h := h I_7 hI_8
      refine ar_iast (hp2 := am_mk I_7 L_5) (q := 121) rfl mk_109 (am_inE rfl hx_2 (by decide)) (by rw [am_clT (n := 6) rfl hx_2 (by decide), hI_8]; exact mk_s109) rfl ?_
      refine ar_iinc (v := nI (p + 1)) (ls' := [some (.ref 106), none, some (.int (nI k)), some (.int (nI (p + 1)))]) (q := 124) rfl rfl rfl (nI_1 _) rfl rfl ?_
      refine ar_goto (t := 84) rfl rfl ?_
      exact am_Run.weak (ls' := _) (by exact ⟨rfl, ⟨rfl, ⟨rfl, trivial⟩⟩⟩) h
theorem r_Match_keeperPrefers_0 {d : Nat} (hd : 1 ≤ d) {R : am_R} {I : Nat → Nat → Int32} {L : Nat → Nat → Int64} {k : Nat} {p : Nat} {q : Nat} (h : k < 20 ∧ (p < 6 ∧ (∃ j_3 : Nat, I 108 p = nI j_3 ∧ ((j_3 < 60) ∧ ((am_ix I 67 j_3 20) ∧ ((am_ix I 43 (am_n I 67 j_3) 10) ∧ (∃ j_8 : Nat, j_8 < 5 ∧ I 3 (am_n I 43 (am_n I 67 j_3)) = nI j_8 ∧ (q < 6 ∧ (∃ j_12 : Nat, I 108 q = nI j_12 ∧ ((j_12 < 60) ∧ ((am_ix I 67 j_12 20) ∧ ((am_ix I 43 (am_n I 67 j_12) 10) ∧ (∃ j_17 : Nat, j_17 < 5 ∧ I 3 (am_n I 43 (am_n I 67 j_12)) = nI j_17 ∧ ((((I (22 + k) j_8) = (I (22 + k) j_17) → ((((nI p) < (nI q) → (R (some (.int 1)) (am_mk I L, 0, 0))) ∧ (¬ (nI p) < (nI q) → (R (some (.int 0)) (am_mk I L, 0, 0)))))) ∧ (¬ (I (22 + k) j_8) = (I (22 + k) j_17) → ((((I (22 + k) j_8) ≤ (I (22 + k) j_17) → (R (some (.int 0)) (am_mk I L, 0, 0))) ∧ (¬ (I (22 + k) j_8) ≤ (I (22 + k) j_17) → (R (some (.int 1)) (am_mk I L, 0, 0))))))))))))))))))))) : am_Run am_X0 (am_meth d) 65 R 0 [some (.ref 106), some (.int (nI k)), some (.int (nI p)), some (.int (nI q)), none, none] [] (am_mk I L, 0, 0) := by
  refine ar_aload_n (j := 0) (q := 1) rfl rfl rfl rfl ?_
  refine ar_getf (v := .ref 16) (q := 4) rfl rfl mk_106 rfl rfl ?_
  refine ar_getf (v := .ref 21) (q := 7) rfl rfl mk_16 rfl rfl ?_
  refine ar_iload_n (j := 1) (q := 8) rfl rfl rfl rfl ?_
  obtain ⟨hx_1, h⟩ := h
  refine ar_aald (c2 := 22 + k) (q := 9) rfl mk_21 (am_inE rfl hx_1 (by decide)) (congrArg (fun z => some (22 + z)) (am_clT (n := 20) rfl hx_1 (by decide))) rfl ?_
  refine ar_aload_n (j := 0) (q := 10) rfl rfl rfl rfl ?_
  refine ar_getf (v := .ref 99) (q := 13) rfl rfl mk_106 rfl rfl ?_
  refine ar_aload_n (j := 0) (q := 14) rfl rfl rfl rfl ?_
  refine ar_getf (v := .ref 108) (q := 17) rfl rfl mk_106 rfl rfl ?_
  refine ar_iload_n (j := 2) (q := 18) rfl rfl rfl rfl ?_
  obtain ⟨hx_2, h⟩ := h
  refine ar_iald (v := I 108 p) (q := 19) rfl mk_108 (am_inE rfl hx_2 (by decide)) (am_clE (n := 6) rfl hx_2 (by decide)) rfl ?_
  refine ar_invv (as := [.int (I 108 p)]) (rest := [.ref (22 + k)]) (b2 := (0, 0)) (b3 := (0, 0)) (q := 22) rfl rfl rfl rfl mk_99 rfl rfl rfl rfl rfl ?_
  obtain ⟨j_3, hi_4, h⟩ := h
  obtain ⟨hp_5, h⟩ := h
  obtain ⟨hp_6, h⟩ := h
  obtain ⟨hp_7, h⟩ := h
  refine ok_Ru_landOf (by omega) hi_4 hp_5 hp_6 hp_7 ?_
  show am_Run am_X0 (am_meth d) 65 R 22 [some (.ref 106), some (.int (nI k)), some (.int (nI p)), some (.int (nI q)), none, none] [.int (I 3 (am_n I 43 (am_n I 67 j_3))), .ref (22 + k)] (am_mk I L, 0, 0)
  obtain ⟨j_8, hx_9, hi_10, h⟩ := h
  refine ar_iald (v := I (22 + k) j_8) (q := 23) rfl (mk_g21 hx_1) (am_inE hi_10 hx_9 (by decide)) (am_clE (n := 5) hi_10 hx_9 (by decide)) rfl ?_
  refine ar_istore (ls' := [some (.ref 106), some (.int (nI k)), some (.int (nI p)), some (.int (nI q)), some (.int (I (22 + k) j_8)), none]) (q := 25) rfl rfl rfl rfl ?_
  refine ar_aload_n (j := 0) (q := 26) rfl rfl rfl rfl ?_
  refine ar_getf (v := .ref 16) (q := 29) rfl rfl mk_106 rfl rfl ?_
  refine ar_getf (v := .ref 21) (q := 32) rfl rfl mk_16 rfl rfl ?_
  refine ar_iload_n (j := 1) (q := 33) rfl rfl rfl rfl ?_
  refine ar_aald (c2 := 22 + k) (q := 34) rfl mk_21 (am_inE rfl hx_1 (by decide)) (congrArg (fun z => some (22 + z)) (am_clT (n := 20) rfl hx_1 (by decide))) rfl ?_
  refine ar_aload_n (j := 0) (q := 35) rfl rfl rfl rfl ?_
  refine ar_getf (v := .ref 99) (q := 38) rfl rfl mk_106 rfl rfl ?_
  refine ar_aload_n (j := 0) (q := 39) rfl rfl rfl rfl ?_
  refine ar_getf (v := .ref 108) (q := 42) rfl rfl mk_106 rfl rfl ?_
  refine ar_iload_n (j := 3) (q := 43) rfl rfl rfl rfl ?_
  obtain ⟨hx_11, h⟩ := h
  refine ar_iald (v := I 108 q) (q := 44) rfl mk_108 (am_inE rfl hx_11 (by decide)) (am_clE (n := 6) rfl hx_11 (by decide)) rfl ?_
  refine ar_invv (as := [.int (I 108 q)]) (rest := [.ref (22 + k)]) (b2 := (0, 0)) (b3 := (0, 0)) (q := 47) rfl rfl rfl rfl mk_99 rfl rfl rfl rfl rfl ?_
  obtain ⟨j_12, hi_13, h⟩ := h
  obtain ⟨hp_14, h⟩ := h
  obtain ⟨hp_15, h⟩ := h
  obtain ⟨hp_16, h⟩ := h
  refine ok_Ru_landOf (by omega) hi_13 hp_14 hp_15 hp_16 ?_
  show am_Run am_X0 (am_meth d) 65 R 47 [some (.ref 106), some (.int (nI k)), some (.int (nI p)), some (.int (nI q)), some (.int (I (22 + k) j_8)), none] [.int (I 3 (am_n I 43 (am_n I 67 j_12))), .ref (22 + k)] (am_mk I L, 0, 0)
  obtain ⟨j_17, hx_18, hi_19, h⟩ := h
  refine ar_iald (v := I (22 + k) j_17) (q := 48) rfl (mk_g21 hx_1) (am_inE hi_19 hx_18 (by decide)) (am_clE (n := 5) hi_19 hx_18 (by decide)) rfl ?_
  refine ar_istore (ls' := [some (.ref 106), some (.int (nI k)), some (.int (nI p)), some (.int (nI q)), some (.int (I (22 + k) j_8)), some (.int (I (22 + k) j_17))]) (q := 50) rfl rfl rfl rfl ?_
  refine ar_iload (q := 52) rfl rfl rfl ?_
  refine ar_iload (q := 54) rfl rfl rfl ?_
  obtain ⟨hA, hB⟩ := h
  refine ar_br am_c_ne (t := 70) (q := 57) rfl rfl rfl (fun c_20 => ?_) (fun c_20 => ?_)
  · have h := hB c_20
    clear hA hB
    refine ar_iload (q := 72) rfl rfl rfl ?_
    refine ar_iload (q := 74) rfl rfl rfl ?_
    obtain ⟨hA, hB⟩ := h
    refine ar_br am_c_le (t := 81) (q := 77) rfl rfl rfl (fun c_22 => ?_) (fun c_22 => ?_)
    · have h := hA c_22
      clear hA hB
      refine ar_iconst (v := 0) (q := 82) rfl rfl rfl ?_
      exact ar_zret rfl rfl (Or.inl rfl) h
    · have h := hB c_22
      clear hA hB
      refine ar_iconst (v := 1) (q := 78) rfl rfl rfl ?_
      refine ar_goto (t := 82) rfl rfl ?_
      exact ar_zret rfl rfl (Or.inr rfl) h
  · have c_20 := Classical.not_not.mp c_20
    have h := hA c_20
    clear hA hB
    refine ar_iload_n (j := 2) (q := 58) rfl rfl rfl rfl ?_
    refine ar_iload_n (j := 3) (q := 59) rfl rfl rfl rfl ?_
    obtain ⟨hA, hB⟩ := h
    refine ar_br am_d_ge (t := 66) (q := 62) rfl rfl rfl (fun c_21 => ?_) (fun c_21 => ?_)
    · have h := hB c_21
      clear hA hB
      refine ar_iconst (v := 0) (q := 67) rfl rfl rfl ?_
      refine ar_goto (t := 82) rfl rfl ?_
      exact ar_zret rfl rfl (Or.inl rfl) h
    · have c_21 := Classical.not_not.mp c_21
      have h := hA c_21
      clear hA hB
      refine ar_iconst (v := 1) (q := 63) rfl rfl rfl ?_
      refine ar_goto (t := 82) rfl rfl ?_
      exact ar_zret rfl rfl (Or.inr rfl) h
theorem r_Match_hasPlace_0 {d : Nat} {R : am_R} {I : Nat → Nat → Int32} {L : Nat → Nat → Int64} {k : Nat} (h : am_Run am_X0 (am_meth d) 62 R 2 [some (.ref 106), some (.int (nI k)), some (.int 0)] [] (am_mk I L, 0, 0)) : am_Run am_X0 (am_meth d) 62 R 0 [some (.ref 106), some (.int (nI k)), none] [] (am_mk I L, 0, 0) := by
  refine ar_iconst (v := 0) (q := 1) rfl rfl rfl ?_
  refine ar_istore_n (j := 2) (ls' := [some (.ref 106), some (.int (nI k)), some (.int 0)]) (q := 2) rfl rfl rfl rfl rfl ?_
  exact am_Run.weak (ls' := _) (by exact ⟨rfl, ⟨rfl, ⟨rfl, trivial⟩⟩⟩) h
theorem r_Match_hasPlace_2 {d : Nat} {R : am_R} {I : Nat → Nat → Int32} {L : Nat → Nat → Int64} {k : Nat} {p : Nat} (h : (((nI p) < (I 106 9) → (p < 6 ∧ ((((I 107 p) = (nI k) → (R (some (.int 1)) (am_mk I L, 0, 0))) ∧ (¬ (I 107 p) = (nI k) → (am_Run am_X0 (am_meth d) 62 R 2 [some (.ref 106), some (.int (nI k)), some (.int (nI (p + 1)))] [] (am_mk I L, 0, 0))))))) ∧ (¬ (nI p) < (I 106 9) → (R (some (.int 0)) (am_mk I L, 0, 0))))) : am_Run am_X0 (am_meth d) 62 R 2 [some (.ref 106), some (.int (nI k)), some (.int (nI p))] [] (am_mk I L, 0, 0) := by
  refine ar_iload_n (j := 2) (q := 3) rfl rfl rfl rfl ?_
  refine ar_aload_n (j := 0) (q := 4) rfl rfl rfl rfl ?_
  refine ar_getf (v := .int (I 106 9)) (q := 7) rfl rfl mk_106 rfl rfl ?_
  obtain ⟨hA, hB⟩ := h
  refine ar_br am_d_ge (t := 28) (q := 10) rfl rfl rfl (fun c_1 => ?_) (fun c_1 => ?_)
  · have h := hB c_1
    clear hA hB
    refine ar_iconst (v := 0) (q := 29) rfl rfl rfl ?_
    exact ar_zret rfl rfl (Or.inl rfl) h
  · have c_1 := Classical.not_not.mp c_1
    have h := hA c_1
    clear hA hB
    refine ar_aload_n (j := 0) (q := 11) rfl rfl rfl rfl ?_
    refine ar_getf (v := .ref 107) (q := 14) rfl rfl mk_106 rfl rfl ?_
    refine ar_iload_n (j := 2) (q := 15) rfl rfl rfl rfl ?_
    obtain ⟨hx_2, h⟩ := h
    refine ar_iald (v := I 107 p) (q := 16) rfl mk_107 (am_inE rfl hx_2 (by decide)) (am_clE (n := 6) rfl hx_2 (by decide)) rfl ?_
    refine ar_iload_n (j := 1) (q := 17) rfl rfl rfl rfl ?_
    obtain ⟨hA, hB⟩ := h
    refine ar_br am_c_ne (t := 22) (q := 20) rfl rfl rfl (fun c_3 => ?_) (fun c_3 => ?_)
    · have h := hB c_3
      clear hA hB
      refine ar_iinc (v := nI (p + 1)) (ls' := [some (.ref 106), some (.int (nI k)), some (.int (nI (p + 1)))]) (q := 25) rfl rfl rfl (nI_1 _) rfl rfl ?_
      refine ar_goto (t := 2) rfl rfl ?_
      exact am_Run.weak (ls' := _) (by exact ⟨rfl, ⟨rfl, ⟨rfl, trivial⟩⟩⟩) h
    · have c_3 := Classical.not_not.mp c_3
      have h := hA c_3
      clear hA hB
      refine ar_iconst (v := 1) (q := 21) rfl rfl rfl ?_
      exact ar_zret rfl rfl (Or.inr rfl) h
theorem r_Match_bestToAsk_0 {d : Nat} {R : am_R} {I : Nat → Nat → Int32} {L : Nat → Nat → Int64} {k : Nat} (h : am_Run am_X0 (am_meth d) 63 R 5 [some (.ref 106), some (.int (nI k)), some (.int (-9 : Int32)), some (.int 0)] [] (am_mk I L, 0, 0)) : am_Run am_X0 (am_meth d) 63 R 0 [some (.ref 106), some (.int (nI k)), none, none] [] (am_mk I L, 0, 0) := by
  refine ar_bipush (v := (-9 : Int32)) (q := 2) rfl rfl rfl ?_
  refine ar_istore_n (j := 2) (ls' := [some (.ref 106), some (.int (nI k)), some (.int (-9 : Int32)), none]) (q := 3) rfl rfl rfl rfl rfl ?_
  refine ar_iconst (v := 0) (q := 4) rfl rfl rfl ?_
  refine ar_istore_n (j := 3) (ls' := [some (.ref 106), some (.int (nI k)), some (.int (-9 : Int32)), some (.int 0)]) (q := 5) rfl rfl rfl rfl rfl ?_
  exact am_Run.weak (ls' := _) (by exact ⟨rfl, ⟨rfl, ⟨rfl, ⟨rfl, trivial⟩⟩⟩⟩) h
theorem r_Match_bestToAsk_5 {d : Nat} (hd : 1 ≤ d) {R : am_R} {I : Nat → Nat → Int32} {L : Nat → Nat → Int64} {k : Nat} {best : Int32} {p : Nat} (h : (((nI p) < (I 106 9) → ((k < 32) ∧ ((p < 6) ∧ (((am_bt (I 109 p) k = true → (k < 20 ∧ ((((((I 110 k) >>> ((nI p) &&& 31)) &&& 1) = 1 → (am_Run am_X0 (am_meth d) 63 R 5 [some (.ref 106), some (.int (nI k)), some (.int best), some (.int (nI (p + 1)))] [] (am_mk I L, 0, 0))) ∧ (¬ (((I 110 k) >>> ((nI p) &&& 31)) &&& 1) = 1 → (((best = (-9 : Int32) → (am_Run am_X0 (am_meth d) 63 R 5 [some (.ref 106), some (.int (nI k)), some (.int (nI p)), some (.int (nI (p + 1)))] [] (am_mk I L, 0, 0))) ∧ (¬ best = (-9 : Int32) → (am_meth d 65 [.ref 106, .int (nI k), .int (nI p), .int best] (am_mk I L, 0, 0) (am_ri (fun z_8 I_9 L_10 => ((z_8 = 0 → (am_Run am_X0 (am_meth d) 63 R 5 [some (.ref 106), some (.int (nI k)), some (.int best), some (.int (nI (p + 1)))] [] (am_mk I_9 L_10, 0, 0))) ∧ (¬ z_8 = 0 → (am_Run am_X0 (am_meth d) 63 R 5 [some (.ref 106), some (.int (nI k)), some (.int (nI p)), some (.int (nI (p + 1)))] [] (am_mk I_9 L_10, 0, 0))))))))))))))) ∧ (¬ (am_bt (I 109 p) k = true) → (am_Run am_X0 (am_meth d) 63 R 5 [some (.ref 106), some (.int (nI k)), some (.int best), some (.int (nI (p + 1)))] [] (am_mk I L, 0, 0)))))))) ∧ (¬ (nI p) < (I 106 9) → (R (some (.int best)) (am_mk I L, 0, 0))))) : am_Run am_X0 (am_meth d) 63 R 5 [some (.ref 106), some (.int (nI k)), some (.int best), some (.int (nI p))] [] (am_mk I L, 0, 0) := by
  refine ar_iload_n (j := 3) (q := 6) rfl rfl rfl rfl ?_
  refine ar_aload_n (j := 0) (q := 7) rfl rfl rfl rfl ?_
  refine ar_getf (v := .int (I 106 9)) (q := 10) rfl rfl mk_106 rfl rfl ?_
  obtain ⟨hA, hB⟩ := h
  refine ar_br am_d_ge (t := 63) (q := 13) rfl rfl rfl (fun c_1 => ?_) (fun c_1 => ?_)
  · have h := hB c_1
    clear hA hB
    refine ar_iload_n (j := 2) (q := 64) rfl rfl rfl rfl ?_
    exact ar_iret rfl rfl h
  · have c_1 := Classical.not_not.mp c_1
    have h := hA c_1
    clear hA hB
    refine ar_aload_n (j := 0) (q := 14) rfl rfl rfl rfl ?_
    refine ar_iload_n (j := 1) (q := 15) rfl rfl rfl rfl ?_
    refine ar_iload_n (j := 3) (q := 16) rfl rfl rfl rfl ?_
    refine ar_invv (as := [.int (nI k), .int (nI p)]) (rest := []) (b2 := (0, 0)) (b3 := (0, 0)) (q := 19) rfl rfl rfl rfl mk_106 rfl rfl rfl rfl rfl ?_
    obtain ⟨hp_3, h⟩ := h
    obtain ⟨hp_4, h⟩ := h
    obtain ⟨hA, hB⟩ := h
    refine ok_Ma_mayTake (by omega) rfl rfl hp_3 hp_4 (fun c_2 => ?_) (fun c_2 => ?_)
    · have h := hA c_2
      clear hA hB
      show am_Run am_X0 (am_meth d) 63 R 19 [some (.ref 106), some (.int (nI k)), some (.int best), some (.int (nI p))] [.int 1] (am_mk I L, 0, 0)
      refine ar_b0 am_c_eq (t := 57) (q := 22) rfl rfl rfl (fun c9 => absurd c9 (by decide)) (fun _ => ?_)
      refine ar_aload_n (j := 0) (q := 23) rfl rfl rfl rfl ?_
      refine ar_getf (v := .ref 110) (q := 26) rfl rfl mk_106 rfl rfl ?_
      refine ar_iload_n (j := 1) (q := 27) rfl rfl rfl rfl ?_
      obtain ⟨hx_5, h⟩ := h
      refine ar_iald (v := I 110 k) (q := 28) rfl mk_110 (am_inE rfl hx_5 (by decide)) (am_clE (n := 20) rfl hx_5 (by decide)) rfl ?_
      refine ar_iload_n (j := 3) (q := 29) rfl rfl rfl rfl ?_
      refine ar_ib (i := .ishr) (z := (I 110 k) >>> ((nI p) &&& 31)) (q := 30) rfl rfl rfl rfl rfl ?_
      refine ar_iconst (v := 1) (q := 31) rfl rfl rfl ?_
      refine ar_ib (i := .iand) (z := ((I 110 k) >>> ((nI p) &&& 31)) &&& 1) (q := 32) rfl rfl rfl rfl rfl ?_
      refine ar_iconst (v := 1) (q := 33) rfl rfl rfl ?_
      obtain ⟨hA, hB⟩ := h
      refine ar_br am_c_ne (t := 39) (q := 36) rfl rfl rfl (fun c_6 => ?_) (fun c_6 => ?_)
      · have h := hB c_6
        clear hA hB
        refine ar_iload_n (j := 2) (q := 40) rfl rfl rfl rfl ?_
        refine ar_bipush (v := (-9 : Int32)) (q := 42) rfl rfl rfl ?_
        obtain ⟨hA, hB⟩ := h
        refine ar_br am_c_eq (t := 55) (q := 45) rfl rfl rfl (fun c_7 => ?_) (fun c_7 => ?_)
        · have h := hA c_7
          clear hA hB
          refine ar_iload_n (j := 3) (q := 56) rfl rfl rfl rfl ?_
          refine ar_istore_n (j := 2) (ls' := [some (.ref 106), some (.int (nI k)), some (.int (nI p)), some (.int (nI p))]) (q := 57) rfl rfl rfl rfl rfl ?_
          refine ar_iinc (v := nI (p + 1)) (ls' := [some (.ref 106), some (.int (nI k)), some (.int (nI p)), some (.int (nI (p + 1)))]) (q := 60) rfl rfl rfl (nI_1 _) rfl rfl ?_
          refine ar_goto (t := 5) rfl rfl ?_
          exact am_Run.weak (ls' := _) (by exact ⟨rfl, ⟨rfl, ⟨rfl, ⟨rfl, trivial⟩⟩⟩⟩) h
        · have h := hB c_7
          clear hA hB
          refine ar_aload_n (j := 0) (q := 46) rfl rfl rfl rfl ?_
          refine ar_iload_n (j := 1) (q := 47) rfl rfl rfl rfl ?_
          refine ar_iload_n (j := 3) (q := 48) rfl rfl rfl rfl ?_
          refine ar_iload_n (j := 2) (q := 49) rfl rfl rfl rfl ?_
          refine ar_invv (as := [.int (nI k), .int (nI p), .int best]) (rest := []) (b2 := (0, 0)) (b3 := (0, 0)) (q := 52) rfl rfl rfl rfl mk_106 rfl rfl rfl rfl rfl ?_
          refine am_meth_mono d _ _ _ _ _ (fun v9 m9 h9 => ?_) h
          obtain ⟨z_8, I_9, L_10, rfl, rfl, h⟩ := h9
          show am_Run am_X0 (am_meth d) 63 R 52 [some (.ref 106), some (.int (nI k)), some (.int best), some (.int (nI p))] [.int z_8] (am_mk I_9 L_10, 0, 0)
          obtain ⟨hA, hB⟩ := h
          refine ar_b0 am_c_eq (t := 57) (q := 55) rfl rfl rfl (fun c_11 => ?_) (fun c_11 => ?_)
          · have h := hA c_11
            clear hA hB
            refine ar_iinc (v := nI (p + 1)) (ls' := [some (.ref 106), some (.int (nI k)), some (.int best), some (.int (nI (p + 1)))]) (q := 60) rfl rfl rfl (nI_1 _) rfl rfl ?_
            refine ar_goto (t := 5) rfl rfl ?_
            exact am_Run.weak (ls' := _) (by exact ⟨rfl, ⟨rfl, ⟨rfl, ⟨rfl, trivial⟩⟩⟩⟩) h
          · have h := hB c_11
            clear hA hB
            refine ar_iload_n (j := 3) (q := 56) rfl rfl rfl rfl ?_
            refine ar_istore_n (j := 2) (ls' := [some (.ref 106), some (.int (nI k)), some (.int (nI p)), some (.int (nI p))]) (q := 57) rfl rfl rfl rfl rfl ?_
            refine ar_iinc (v := nI (p + 1)) (ls' := [some (.ref 106), some (.int (nI k)), some (.int (nI p)), some (.int (nI (p + 1)))]) (q := 60) rfl rfl rfl (nI_1 _) rfl rfl ?_
            refine ar_goto (t := 5) rfl rfl ?_
            exact am_Run.weak (ls' := _) (by exact ⟨rfl, ⟨rfl, ⟨rfl, ⟨rfl, trivial⟩⟩⟩⟩) h
      · have c_6 := Classical.not_not.mp c_6
        have h := hA c_6
        clear hA hB
        refine ar_goto (t := 57) rfl rfl ?_
        refine ar_iinc (v := nI (p + 1)) (ls' := [some (.ref 106), some (.int (nI k)), some (.int best), some (.int (nI (p + 1)))]) (q := 60) rfl rfl rfl (nI_1 _) rfl rfl ?_
        refine ar_goto (t := 5) rfl rfl ?_
        exact am_Run.weak (ls' := _) (by exact ⟨rfl, ⟨rfl, ⟨rfl, ⟨rfl, trivial⟩⟩⟩⟩) h
    · have h := hB c_2
      clear hA hB
      show am_Run am_X0 (am_meth d) 63 R 19 [some (.ref 106), some (.int (nI k)), some (.int best), some (.int (nI p))] [.int 0] (am_mk I L, 0, 0)
      refine ar_b0 am_c_eq (t := 57) (q := 22) rfl rfl rfl (fun _ => ?_) (fun c9 => absurd (by decide) c9)
      refine ar_iinc (v := nI (p + 1)) (ls' := [some (.ref 106), some (.int (nI k)), some (.int best), some (.int (nI (p + 1)))]) (q := 60) rfl rfl rfl (nI_1 _) rfl rfl ?_
      refine ar_goto (t := 5) rfl rfl ?_
      exact am_Run.weak (ls' := _) (by exact ⟨rfl, ⟨rfl, ⟨rfl, ⟨rfl, trivial⟩⟩⟩⟩) h
theorem r_Match_ask_0 {d : Nat} {R : am_R} {I : Nat → Nat → Int32} {L : Nat → Nat → Int64} {k : Nat} {p : Nat} (h : p < 6 ∧ ((((I 107 p) = (-9 : Int32) → (∀ I_3 : Nat → Nat → Int32, I_3 = va_up I 107 (upd (I 107) p (nI k)) → ((((I 107 p) < 0 → (R none (am_mk I_3 L, 0, 0))) ∧ (¬ (I 107 p) < 0 → (∃ j_6 : Nat, j_6 < 20 ∧ I 107 p = nI j_6 ∧ (∀ I_9 : Nat → Nat → Int32, I_9 = va_up I_3 110 (upd (I_3 110) j_6 ((I_3 110 j_6) ||| (1 <<< ((nI p) &&& 31)))) → (R none (am_mk I_9 L, 0, 0))))))))) ∧ (¬ (I 107 p) = (-9 : Int32) → (am_meth d 67 [.ref 106, .int (nI k), .int (I 107 p)] (am_mk I L, 0, 0) (am_ri (fun z_11 I_12 L_13 => ((z_11 = 0 → (k < 20 ∧ (∀ I_16 : Nat → Nat → Int32, I_16 = va_up I_12 110 (upd (I_12 110) k ((I_12 110 k) ||| (1 <<< ((nI p) &&& 31)))) → (R none (am_mk I_16 L_13, 0, 0))))) ∧ (¬ z_11 = 0 → (∀ I_18 : Nat → Nat → Int32, I_18 = va_up I_12 107 (upd (I_12 107) p (nI k)) → ((((I 107 p) < 0 → (R none (am_mk I_18 L_13, 0, 0))) ∧ (¬ (I 107 p) < 0 → (∃ j_21 : Nat, j_21 < 20 ∧ I 107 p = nI j_21 ∧ (∀ I_24 : Nat → Nat → Int32, I_24 = va_up I_18 110 (upd (I_18 110) j_21 ((I_18 110 j_21) ||| (1 <<< ((nI p) &&& 31)))) → (R none (am_mk I_24 L_13, 0, 0))))))))))))))))) : am_Run am_X0 (am_meth d) 66 R 0 [some (.ref 106), some (.int (nI k)), some (.int (nI p)), none] [] (am_mk I L, 0, 0) := by
  refine ar_aload_n (j := 0) (q := 1) rfl rfl rfl rfl ?_
  refine ar_getf (v := .ref 107) (q := 4) rfl rfl mk_106 rfl rfl ?_
  refine ar_iload_n (j := 2) (q := 5) rfl rfl rfl rfl ?_
  obtain ⟨hx_1, h⟩ := h
  refine ar_iald (v := I 107 p) (q := 6) rfl mk_107 (am_inE rfl hx_1 (by decide)) (am_clE (n := 6) rfl hx_1 (by decide)) rfl ?_
  refine ar_istore_n (j := 3) (ls' := [some (.ref 106), some (.int (nI k)), some (.int (nI p)), some (.int (I 107 p))]) (q := 7) rfl rfl rfl rfl rfl ?_
  refine ar_iload_n (j := 3) (q := 8) rfl rfl rfl rfl ?_
  refine ar_bipush (v := (-9 : Int32)) (q := 10) rfl rfl rfl ?_
  obtain ⟨hA, hB⟩ := h
  refine ar_br am_c_eq (t := 22) (q := 13) rfl rfl rfl (fun c_2 => ?_) (fun c_2 => ?_)
  · have h := hA c_2
    clear hA hB
    refine ar_aload_n (j := 0) (q := 23) rfl rfl rfl rfl ?_
    refine ar_getf (v := .ref 107) (q := 26) rfl rfl mk_106 rfl rfl ?_
    refine ar_iload_n (j := 2) (q := 27) rfl rfl rfl rfl ?_
    refine ar_iload_n (j := 1) (q := 28) rfl rfl rfl rfl ?_
    obtain ⟨I_3, hI_4⟩ : ∃ z : Nat → Nat → Int32, z = va_up I 107 (upd (I 107) p (nI k)) := ⟨_, rfl⟩
    have h := h I_3 hI_4
    refine ar_iast (hp2 := am_mk I_3 L) (q := 29) rfl mk_107 (am_inE rfl hx_1 (by decide)) (by rw [am_clT (n := 6) rfl hx_1 (by decide), hI_4]; exact mk_s107) rfl ?_
    refine ar_iload_n (j := 3) (q := 30) rfl rfl rfl rfl ?_
    obtain ⟨hA, hB⟩ := h
    refine ar_b0 am_c_lt (t := 60) (q := 33) rfl rfl rfl (fun c_5 => ?_) (fun c_5 => ?_)
    · have h := hA c_5
      clear hA hB
      exact ar_vret rfl rfl h
    · have h := hB c_5
      clear hA hB
      refine ar_aload_n (j := 0) (q := 34) rfl rfl rfl rfl ?_
      refine ar_getf (v := .ref 110) (q := 37) rfl rfl mk_106 rfl rfl ?_
      refine ar_iload_n (j := 3) (q := 38) rfl rfl rfl rfl ?_
      refine ar_st (i := .dup2) (n := 1) (st' := [.int (I 107 p), .ref 110, .int (I 107 p), .ref 110]) (q := 39) rfl rfl rfl rfl ?_
      obtain ⟨j_6, hx_7, hi_8, h⟩ := h
      refine ar_iald (v := I_3 110 j_6) (q := 40) rfl mk_110 (am_inE hi_8 hx_7 (by decide)) (am_clE (n := 20) hi_8 hx_7 (by decide)) rfl ?_
      refine ar_iconst (v := 1) (q := 41) rfl rfl rfl ?_
      refine ar_iload_n (j := 2) (q := 42) rfl rfl rfl rfl ?_
      refine ar_ib (i := .ishl) (z := 1 <<< ((nI p) &&& 31)) (q := 43) rfl rfl rfl rfl rfl ?_
      refine ar_ib (i := .ior) (z := (I_3 110 j_6) ||| (1 <<< ((nI p) &&& 31))) (q := 44) rfl rfl rfl rfl rfl ?_
      obtain ⟨I_9, hI_10⟩ : ∃ z : Nat → Nat → Int32, z = va_up I_3 110 (upd (I_3 110) j_6 ((I_3 110 j_6) ||| (1 <<< ((nI p) &&& 31)))) := ⟨_, rfl⟩
      have h := h I_9 hI_10
      refine ar_iast (hp2 := am_mk I_9 L) (q := 45) rfl mk_110 (am_inE hi_8 hx_7 (by decide)) (by rw [am_clT (n := 20) hi_8 hx_7 (by decide), hI_10]; exact mk_s110) rfl ?_
      refine ar_goto (t := 60) rfl rfl ?_
      exact ar_vret rfl rfl h
  · have h := hB c_2
    clear hA hB
    refine ar_aload_n (j := 0) (q := 14) rfl rfl rfl rfl ?_
    refine ar_iload_n (j := 1) (q := 15) rfl rfl rfl rfl ?_
    refine ar_iload_n (j := 3) (q := 16) rfl rfl rfl rfl ?_
    refine ar_invv (as := [.int (nI k), .int (I 107 p)]) (rest := []) (b2 := (0, 0)) (b3 := (0, 0)) (q := 19) rfl rfl rfl rfl mk_106 rfl rfl rfl rfl rfl ?_
    refine am_meth_mono d _ _ _ _ _ (fun v9 m9 h9 => ?_) h
    obtain ⟨z_11, I_12, L_13, rfl, rfl, h⟩ := h9
    show am_Run am_X0 (am_meth d) 66 R 19 [some (.ref 106), some (.int (nI k)), some (.int (nI p)), some (.int (I 107 p))] [.int z_11] (am_mk I_12 L_13, 0, 0)
    obtain ⟨hA, hB⟩ := h
    refine ar_b0 am_c_eq (t := 48) (q := 22) rfl rfl rfl (fun c_14 => ?_) (fun c_14 => ?_)
    · have h := hA c_14
      clear hA hB
      refine ar_aload_n (j := 0) (q := 49) rfl rfl rfl rfl ?_
      refine ar_getf (v := .ref 110) (q := 52) rfl rfl mk_106 rfl rfl ?_
      refine ar_iload_n (j := 1) (q := 53) rfl rfl rfl rfl ?_
      refine ar_st (i := .dup2) (n := 1) (st' := [.int (nI k), .ref 110, .int (nI k), .ref 110]) (q := 54) rfl rfl rfl rfl ?_
      obtain ⟨hx_15, h⟩ := h
      refine ar_iald (v := I_12 110 k) (q := 55) rfl mk_110 (am_inE rfl hx_15 (by decide)) (am_clE (n := 20) rfl hx_15 (by decide)) rfl ?_
      refine ar_iconst (v := 1) (q := 56) rfl rfl rfl ?_
      refine ar_iload_n (j := 2) (q := 57) rfl rfl rfl rfl ?_
      refine ar_ib (i := .ishl) (z := 1 <<< ((nI p) &&& 31)) (q := 58) rfl rfl rfl rfl rfl ?_
      refine ar_ib (i := .ior) (z := (I_12 110 k) ||| (1 <<< ((nI p) &&& 31))) (q := 59) rfl rfl rfl rfl rfl ?_
      obtain ⟨I_16, hI_17⟩ : ∃ z : Nat → Nat → Int32, z = va_up I_12 110 (upd (I_12 110) k ((I_12 110 k) ||| (1 <<< ((nI p) &&& 31)))) := ⟨_, rfl⟩
      have h := h I_16 hI_17
      refine ar_iast (hp2 := am_mk I_16 L_13) (q := 60) rfl mk_110 (am_inE rfl hx_15 (by decide)) (by rw [am_clT (n := 20) rfl hx_15 (by decide), hI_17]; exact mk_s110) rfl ?_
      exact ar_vret rfl rfl h
    · have h := hB c_14
      clear hA hB
      refine ar_aload_n (j := 0) (q := 23) rfl rfl rfl rfl ?_
      refine ar_getf (v := .ref 107) (q := 26) rfl rfl mk_106 rfl rfl ?_
      refine ar_iload_n (j := 2) (q := 27) rfl rfl rfl rfl ?_
      refine ar_iload_n (j := 1) (q := 28) rfl rfl rfl rfl ?_
      obtain ⟨I_18, hI_19⟩ : ∃ z : Nat → Nat → Int32, z = va_up I_12 107 (upd (I_12 107) p (nI k)) := ⟨_, rfl⟩
      have h := h I_18 hI_19
      refine ar_iast (hp2 := am_mk I_18 L_13) (q := 29) rfl mk_107 (am_inE rfl hx_1 (by decide)) (by rw [am_clT (n := 6) rfl hx_1 (by decide), hI_19]; exact mk_s107) rfl ?_
      refine ar_iload_n (j := 3) (q := 30) rfl rfl rfl rfl ?_
      obtain ⟨hA, hB⟩ := h
      refine ar_b0 am_c_lt (t := 60) (q := 33) rfl rfl rfl (fun c_20 => ?_) (fun c_20 => ?_)
      · have h := hA c_20
        clear hA hB
        exact ar_vret rfl rfl h
      · have h := hB c_20
        clear hA hB
        refine ar_aload_n (j := 0) (q := 34) rfl rfl rfl rfl ?_
        refine ar_getf (v := .ref 110) (q := 37) rfl rfl mk_106 rfl rfl ?_
        refine ar_iload_n (j := 3) (q := 38) rfl rfl rfl rfl ?_
        refine ar_st (i := .dup2) (n := 1) (st' := [.int (I 107 p), .ref 110, .int (I 107 p), .ref 110]) (q := 39) rfl rfl rfl rfl ?_
        obtain ⟨j_21, hx_22, hi_23, h⟩ := h
        refine ar_iald (v := I_18 110 j_21) (q := 40) rfl mk_110 (am_inE hi_23 hx_22 (by decide)) (am_clE (n := 20) hi_23 hx_22 (by decide)) rfl ?_
        refine ar_iconst (v := 1) (q := 41) rfl rfl rfl ?_
        refine ar_iload_n (j := 2) (q := 42) rfl rfl rfl rfl ?_
        refine ar_ib (i := .ishl) (z := 1 <<< ((nI p) &&& 31)) (q := 43) rfl rfl rfl rfl rfl ?_
        refine ar_ib (i := .ior) (z := (I_18 110 j_21) ||| (1 <<< ((nI p) &&& 31))) (q := 44) rfl rfl rfl rfl rfl ?_
        obtain ⟨I_24, hI_25⟩ : ∃ z : Nat → Nat → Int32, z = va_up I_18 110 (upd (I_18 110) j_21 ((I_18 110 j_21) ||| (1 <<< ((nI p) &&& 31)))) := ⟨_, rfl⟩
        have h := h I_24 hI_25
        refine ar_iast (hp2 := am_mk I_24 L_13) (q := 45) rfl mk_110 (am_inE hi_23 hx_22 (by decide)) (by rw [am_clT (n := 20) hi_23 hx_22 (by decide), hI_25]; exact mk_s110) rfl ?_
        refine ar_goto (t := 60) rfl rfl ?_
        exact ar_vret rfl rfl h
theorem r_Match_makePairs_0 {d : Nat} {R : am_R} {I : Nat → Nat → Int32} {L : Nat → Nat → Int64}  (h : am_meth d 242 [.ref 107, .int (-9 : Int32)] (am_mk I L, 0, 0) (am_rv (fun I_1 L_2 => am_meth d 242 [.ref 110, .int 0] (am_mk I_1 L_2, 0, 0) (am_rv (fun I_3 L_4 => am_Run am_X0 (am_meth d) 61 R 19 [some (.ref 106), some (.int 0), none, none, none] [] (am_mk I_3 L_4, 0, 0)))))) : am_Run am_X0 (am_meth d) 61 R 0 [some (.ref 106), none, none, none, none] [] (am_mk I L, 0, 0) := by
  refine ar_aload_n (j := 0) (q := 1) rfl rfl rfl rfl ?_
  refine ar_getf (v := .ref 107) (q := 4) rfl rfl mk_106 rfl rfl ?_
  refine ar_bipush (v := (-9 : Int32)) (q := 6) rfl rfl rfl ?_
  refine ar_invs (as := [.ref 107, .int (-9 : Int32)]) (rest := []) (b2 := (0, 0)) (b3 := (0, 0)) (q := 9) rfl rfl rfl rfl rfl rfl rfl rfl rfl ?_
  refine am_meth_mono d _ _ _ _ _ (fun v9 m9 h9 => ?_) h
  obtain ⟨I_1, L_2, rfl, rfl, h⟩ := h9
  show am_Run am_X0 (am_meth d) 61 R 9 [some (.ref 106), none, none, none, none] [] (am_mk I_1 L_2, 0, 0)
  refine ar_aload_n (j := 0) (q := 10) rfl rfl rfl rfl ?_
  refine ar_getf (v := .ref 110) (q := 13) rfl rfl mk_106 rfl rfl ?_
  refine ar_iconst (v := 0) (q := 14) rfl rfl rfl ?_
  refine ar_invs (as := [.ref 110, .int 0]) (rest := []) (b2 := (0, 0)) (b3 := (0, 0)) (q := 17) rfl rfl rfl rfl rfl rfl rfl rfl rfl ?_
  refine am_meth_mono d _ _ _ _ _ (fun v9 m9 h9 => ?_) h
  obtain ⟨I_3, L_4, rfl, rfl, h⟩ := h9
  show am_Run am_X0 (am_meth d) 61 R 17 [some (.ref 106), none, none, none, none] [] (am_mk I_3 L_4, 0, 0)
  refine ar_iconst (v := 0) (q := 18) rfl rfl rfl ?_
  refine ar_istore_n (j := 1) (ls' := [some (.ref 106), some (.int 0), none, none, none]) (q := 19) rfl rfl rfl rfl rfl ?_
  exact am_Run.weak (ls' := _) (by exact ⟨rfl, ⟨rfl, trivial⟩⟩) h
theorem r_Match_makePairs_19 {d : Nat} {R : am_R} {I : Nat → Nat → Int32} {L : Nat → Nat → Int64} {r : Nat} (h : (((nI r) ≤ 120 → (am_Run am_X0 (am_meth d) 61 R 29 [some (.ref 106), some (.int (nI r)), some (.int 0), some (.int 0), none] [] (am_mk I L, 0, 0))) ∧ (¬ (nI r) ≤ 120 → (R none (am_mk I L, 0, 0))))) : am_Run am_X0 (am_meth d) 61 R 19 [some (.ref 106), some (.int (nI r)), none, none, none] [] (am_mk I L, 0, 0) := by
  refine ar_iload_n (j := 1) (q := 20) rfl rfl rfl rfl ?_
  refine ar_bipush (v := 120) (q := 22) rfl rfl rfl ?_
  obtain ⟨hA, hB⟩ := h
  refine ar_br am_d_gt (t := 96) (q := 25) rfl rfl rfl (fun c_1 => ?_) (fun c_1 => ?_)
  · have h := hB c_1
    clear hA hB
    exact ar_vret rfl rfl h
  · have c_1 := Classical.not_not.mp c_1
    have h := hA c_1
    clear hA hB
    refine ar_iconst (v := 0) (q := 26) rfl rfl rfl ?_
    refine ar_istore_n (j := 2) (ls' := [some (.ref 106), some (.int (nI r)), some (.int 0), none, none]) (q := 27) rfl rfl rfl rfl rfl ?_
    refine ar_iconst (v := 0) (q := 28) rfl rfl rfl ?_
    refine ar_istore_n (j := 3) (ls' := [some (.ref 106), some (.int (nI r)), some (.int 0), some (.int 0), none]) (q := 29) rfl rfl rfl rfl rfl ?_
    exact am_Run.weak (ls' := _) (by exact ⟨rfl, ⟨rfl, ⟨rfl, ⟨rfl, trivial⟩⟩⟩⟩) h
theorem r_Match_makePairs_29 {d : Nat} {R : am_R} {I : Nat → Nat → Int32} {L : Nat → Nat → Int64} {r : Nat} {a : Int32} {k : Nat} (h : (((nI k) < (I 16 0) → (am_meth d 62 [.ref 106, .int (nI k)] (am_mk I L, 0, 0) (am_ri (fun z_2 I_3 L_4 => ((z_2 = 0 → (am_meth d 63 [.ref 106, .int (nI k)] (am_mk I_3 L_4, 0, 0) (am_ri (fun z_6 I_7 L_8 => ((z_6 = (-9 : Int32) → (am_Run am_X0 (am_meth d) 61 R 29 [some (.ref 106), some (.int (nI r)), some (.int a), some (.int (nI (k + 1))), none] [] (am_mk I_7 L_8, 0, 0))) ∧ (¬ z_6 = (-9 : Int32) → (am_meth d 66 [.ref 106, .int (nI k), .int z_6] (am_mk I_7 L_8, 0, 0) (am_rv (fun I_10 L_11 => am_Run am_X0 (am_meth d) 61 R 29 [some (.ref 106), some (.int (nI r)), some (.int 1), some (.int (nI (k + 1))), none] [] (am_mk I_10 L_11, 0, 0)))))))))) ∧ (¬ z_2 = 0 → (am_Run am_X0 (am_meth d) 61 R 29 [some (.ref 106), some (.int (nI r)), some (.int a), some (.int (nI (k + 1))), none] [] (am_mk I_3 L_4, 0, 0)))))))) ∧ (¬ (nI k) < (I 16 0) → (((a = 0 → (R none (am_mk I L, 0, 0))) ∧ (¬ a = 0 → (am_Run am_X0 (am_meth d) 61 R 19 [some (.ref 106), some (.int (nI (r + 1))), none, none, none] [] (am_mk I L, 0, 0)))))))) : am_Run am_X0 (am_meth d) 61 R 29 [some (.ref 106), some (.int (nI r)), some (.int a), some (.int (nI k)), none] [] (am_mk I L, 0, 0) := by
  refine ar_iload_n (j := 3) (q := 30) rfl rfl rfl rfl ?_
  refine ar_aload_n (j := 0) (q := 31) rfl rfl rfl rfl ?_
  refine ar_getf (v := .ref 16) (q := 34) rfl rfl mk_106 rfl rfl ?_
  refine ar_getf (v := .int (I 16 0)) (q := 37) rfl rfl mk_16 rfl rfl ?_
  obtain ⟨hA, hB⟩ := h
  refine ar_br am_d_ge (t := 85) (q := 40) rfl rfl rfl (fun c_1 => ?_) (fun c_1 => ?_)
  · have h := hB c_1
    clear hA hB
    refine ar_iload_n (j := 2) (q := 86) rfl rfl rfl rfl ?_
    obtain ⟨hA, hB⟩ := h
    refine ar_b0 am_c_ne (t := 90) (q := 89) rfl rfl rfl (fun c_12 => ?_) (fun c_12 => ?_)
    · have h := hB c_12
      clear hA hB
      refine ar_iinc (v := nI (r + 1)) (ls' := [some (.ref 106), some (.int (nI (r + 1))), some (.int a), some (.int (nI k)), none]) (q := 93) rfl rfl rfl (nI_1 _) rfl rfl ?_
      refine ar_goto (t := 19) rfl rfl ?_
      exact am_Run.weak (ls' := _) (by exact ⟨rfl, ⟨rfl, trivial⟩⟩) h
    · have c_12 := Classical.not_not.mp c_12
      have h := hA c_12
      clear hA hB
      exact ar_vret rfl rfl h
  · have c_1 := Classical.not_not.mp c_1
    have h := hA c_1
    clear hA hB
    refine ar_aload_n (j := 0) (q := 41) rfl rfl rfl rfl ?_
    refine ar_iload_n (j := 3) (q := 42) rfl rfl rfl rfl ?_
    refine ar_invv (as := [.int (nI k)]) (rest := []) (b2 := (0, 0)) (b3 := (0, 0)) (q := 45) rfl rfl rfl rfl mk_106 rfl rfl rfl rfl rfl ?_
    refine am_meth_mono d _ _ _ _ _ (fun v9 m9 h9 => ?_) h
    obtain ⟨z_2, I_3, L_4, rfl, rfl, h⟩ := h9
    show am_Run am_X0 (am_meth d) 61 R 45 [some (.ref 106), some (.int (nI r)), some (.int a), some (.int (nI k)), none] [.int z_2] (am_mk I_3 L_4, 0, 0)
    obtain ⟨hA, hB⟩ := h
    refine ar_b0 am_c_eq (t := 53) (q := 48) rfl rfl rfl (fun c_5 => ?_) (fun c_5 => ?_)
    · have h := hA c_5
      clear hA hB
      refine ar_aload_n (j := 0) (q := 54) rfl rfl rfl rfl ?_
      refine ar_iload_n (j := 3) (q := 55) rfl rfl rfl rfl ?_
      refine ar_invv (as := [.int (nI k)]) (rest := []) (b2 := (0, 0)) (b3 := (0, 0)) (q := 58) rfl rfl rfl rfl mk_106 rfl rfl rfl rfl rfl ?_
      refine am_meth_mono d _ _ _ _ _ (fun v9 m9 h9 => ?_) h
      obtain ⟨z_6, I_7, L_8, rfl, rfl, h⟩ := h9
      show am_Run am_X0 (am_meth d) 61 R 58 [some (.ref 106), some (.int (nI r)), some (.int a), some (.int (nI k)), none] [.int z_6] (am_mk I_7 L_8, 0, 0)
      refine ar_istore (ls' := [some (.ref 106), some (.int (nI r)), some (.int a), some (.int (nI k)), some (.int z_6)]) (q := 60) rfl rfl rfl rfl ?_
      refine ar_iload (q := 62) rfl rfl rfl ?_
      refine ar_bipush (v := (-9 : Int32)) (q := 64) rfl rfl rfl ?_
      obtain ⟨hA, hB⟩ := h
      refine ar_br am_c_ne (t := 70) (q := 67) rfl rfl rfl (fun c_9 => ?_) (fun c_9 => ?_)
      · have h := hB c_9
        clear hA hB
        refine ar_aload_n (j := 0) (q := 71) rfl rfl rfl rfl ?_
        refine ar_iload_n (j := 3) (q := 72) rfl rfl rfl rfl ?_
        refine ar_iload (q := 74) rfl rfl rfl ?_
        refine ar_invv (as := [.int (nI k), .int z_6]) (rest := []) (b2 := (0, 0)) (b3 := (0, 0)) (q := 77) rfl rfl rfl rfl mk_106 rfl rfl rfl rfl rfl ?_
        refine am_meth_mono d _ _ _ _ _ (fun v9 m9 h9 => ?_) h
        obtain ⟨I_10, L_11, rfl, rfl, h⟩ := h9
        show am_Run am_X0 (am_meth d) 61 R 77 [some (.ref 106), some (.int (nI r)), some (.int a), some (.int (nI k)), some (.int z_6)] [] (am_mk I_10 L_11, 0, 0)
        refine ar_iconst (v := 1) (q := 78) rfl rfl rfl ?_
        refine ar_istore_n (j := 2) (ls' := [some (.ref 106), some (.int (nI r)), some (.int 1), some (.int (nI k)), some (.int z_6)]) (q := 79) rfl rfl rfl rfl rfl ?_
        refine ar_iinc (v := nI (k + 1)) (ls' := [some (.ref 106), some (.int (nI r)), some (.int 1), some (.int (nI (k + 1))), some (.int z_6)]) (q := 82) rfl rfl rfl (nI_1 _) rfl rfl ?_
        refine ar_goto (t := 29) rfl rfl ?_
        exact am_Run.weak (ls' := _) (by exact ⟨rfl, ⟨rfl, ⟨rfl, ⟨rfl, trivial⟩⟩⟩⟩) h
      · have c_9 := Classical.not_not.mp c_9
        have h := hA c_9
        clear hA hB
        refine ar_goto (t := 79) rfl rfl ?_
        refine ar_iinc (v := nI (k + 1)) (ls' := [some (.ref 106), some (.int (nI r)), some (.int a), some (.int (nI (k + 1))), some (.int z_6)]) (q := 82) rfl rfl rfl (nI_1 _) rfl rfl ?_
        refine ar_goto (t := 29) rfl rfl ?_
        exact am_Run.weak (ls' := _) (by exact ⟨rfl, ⟨rfl, ⟨rfl, ⟨rfl, trivial⟩⟩⟩⟩) h
    · have h := hB c_5
      clear hA hB
      refine ar_bipush (v := (-9 : Int32)) (q := 50) rfl rfl rfl ?_
      refine ar_goto (t := 58) rfl rfl ?_
      refine ar_istore (ls' := [some (.ref 106), some (.int (nI r)), some (.int a), some (.int (nI k)), some (.int (-9 : Int32))]) (q := 60) rfl rfl rfl rfl ?_
      refine ar_iload (q := 62) rfl rfl rfl ?_
      refine ar_bipush (v := (-9 : Int32)) (q := 64) rfl rfl rfl ?_
      refine ar_br am_c_ne (t := 70) (q := 67) rfl rfl rfl (fun c9 => absurd (by decide) c9) (fun _ => ?_)
      refine ar_goto (t := 79) rfl rfl ?_
      refine ar_iinc (v := nI (k + 1)) (ls' := [some (.ref 106), some (.int (nI r)), some (.int a), some (.int (nI (k + 1))), some (.int (-9 : Int32))]) (q := 82) rfl rfl rfl (nI_1 _) rfl rfl ?_
      refine ar_goto (t := 29) rfl rfl ?_
      exact am_Run.weak (ls' := _) (by exact ⟨rfl, ⟨rfl, ⟨rfl, ⟨rfl, trivial⟩⟩⟩⟩) h
theorem r_Match_verdictOn_0 {d : Nat} {R : am_R} {I : Nat → Nat → Int32} {L : Nat → Nat → Int64}  (h : am_Run am_X0 (am_meth d) 68 R 2 [some (.ref 106), some (.ref 97), some (.int 0), none] [] (am_mk I L, 0, 0)) : am_Run am_X0 (am_meth d) 68 R 0 [some (.ref 106), some (.ref 97), none, none] [] (am_mk I L, 0, 0) := by
  refine ar_iconst (v := 0) (q := 1) rfl rfl rfl ?_
  refine ar_istore_n (j := 2) (ls' := [some (.ref 106), some (.ref 97), some (.int 0), none]) (q := 2) rfl rfl rfl rfl rfl ?_
  exact am_Run.weak (ls' := _) (by exact ⟨rfl, ⟨rfl, ⟨rfl, trivial⟩⟩⟩) h
theorem r_Match_verdictOn_2 {d : Nat} (hd : 1 ≤ d) {R : am_R} {I : Nat → Nat → Int32} {L : Nat → Nat → Int64} {p : Nat} (h : (((nI p) < (I 106 9) → ((p < 6) ∧ ((nI p < I 97 0) ∧ ((((I 98 p) = (-1 : Int32) → (am_Run am_X0 (am_meth d) 68 R 2 [some (.ref 106), some (.ref 97), some (.int (nI (p + 1))), none] [] (am_mk I L, 0, 0))) ∧ (¬ (I 98 p) = (-1 : Int32) → (((0 ≤ (I 98 p) ∧ (I 98 p) < I 16 0 → (∃ j_6 : Nat, I 98 p = nI j_6 ∧ ((j_6 < 32) ∧ ((p < 6) ∧ (((am_bt (I 109 p) j_6 = true → (am_meth d 90 [.ref 97, .int (I 98 p)] (am_mk I L, 0, 0) (am_ri (fun z_11 I_12 L_13 => ((z_11 < (nI p) → (R (some (.int (nI p))) (am_mk I_12 L_13, 0, 0))) ∧ (¬ z_11 < (nI p) → (am_Run am_X0 (am_meth d) 68 R 2 [some (.ref 106), some (.ref 97), some (.int (nI (p + 1))), none] [] (am_mk I_12 L_13, 0, 0)))))))) ∧ (¬ (am_bt (I 109 p) j_6 = true) → (R (some (.int (nI p))) (am_mk I L, 0, 0))))))))) ∧ (¬ (0 ≤ (I 98 p) ∧ (I 98 p) < I 16 0) → (R (some (.int (nI p))) (am_mk I L, 0, 0))))))))))) ∧ (¬ (nI p) < (I 106 9) → (am_Run am_X0 (am_meth d) 68 R 65 [some (.ref 106), some (.ref 97), some (.int 0), none] [] (am_mk I L, 0, 0))))) : am_Run am_X0 (am_meth d) 68 R 2 [some (.ref 106), some (.ref 97), some (.int (nI p)), none] [] (am_mk I L, 0, 0) := by
  refine ar_iload_n (j := 2) (q := 3) rfl rfl rfl rfl ?_
  refine ar_aload_n (j := 0) (q := 4) rfl rfl rfl rfl ?_
  refine ar_getf (v := .int (I 106 9)) (q := 7) rfl rfl mk_106 rfl rfl ?_
  obtain ⟨hA, hB⟩ := h
  refine ar_br am_d_ge (t := 63) (q := 10) rfl rfl rfl (fun c_1 => ?_) (fun c_1 => ?_)
  · have h := hB c_1
    clear hA hB
    refine ar_iconst (v := 0) (q := 64) rfl rfl rfl ?_
    refine ar_istore_n (j := 2) (ls' := [some (.ref 106), some (.ref 97), some (.int 0), none]) (q := 65) rfl rfl rfl rfl rfl ?_
    exact am_Run.weak (ls' := _) (by exact ⟨rfl, ⟨rfl, ⟨rfl, trivial⟩⟩⟩) h
  · have c_1 := Classical.not_not.mp c_1
    have h := hA c_1
    clear hA hB
    refine ar_aload_n (j := 1) (q := 11) rfl rfl rfl rfl ?_
    refine ar_iload_n (j := 2) (q := 12) rfl rfl rfl rfl ?_
    refine ar_invv (as := [.int (nI p)]) (rest := []) (b2 := (0, 0)) (b3 := (0, 0)) (q := 15) rfl rfl rfl rfl mk_97 rfl rfl rfl rfl rfl ?_
    obtain ⟨hp_2, h⟩ := h
    obtain ⟨hp_3, h⟩ := h
    refine ok_Ro_at_told (by omega) rfl hp_2 hp_3 ?_
    show am_Run am_X0 (am_meth d) 68 R 15 [some (.ref 106), some (.ref 97), some (.int (nI p)), none] [.int (I 98 p)] (am_mk I L, 0, 0)
    refine ar_istore_n (j := 3) (ls' := [some (.ref 106), some (.ref 97), some (.int (nI p)), some (.int (I 98 p))]) (q := 16) rfl rfl rfl rfl rfl ?_
    refine ar_iload_n (j := 3) (q := 17) rfl rfl rfl rfl ?_
    refine ar_iconst (v := (-1 : Int32)) (q := 18) rfl rfl rfl ?_
    obtain ⟨hA, hB⟩ := h
    refine ar_br am_c_ne (t := 24) (q := 21) rfl rfl rfl (fun c_4 => ?_) (fun c_4 => ?_)
    · have h := hB c_4
      clear hA hB
      refine ar_aload_n (j := 0) (q := 25) rfl rfl rfl rfl ?_
      refine ar_getf (v := .ref 16) (q := 28) rfl rfl mk_106 rfl rfl ?_
      refine ar_iload_n (j := 3) (q := 29) rfl rfl rfl rfl ?_
      refine ar_invv (as := [.int (I 98 p)]) (rest := []) (b2 := (0, 0)) (b3 := (0, 0)) (q := 32) rfl rfl rfl rfl mk_16 rfl rfl rfl rfl rfl ?_
      obtain ⟨hA, hB⟩ := h
      refine ok_Ke_has (by omega)  (fun c_5 => ?_) (fun c_5 => ?_)
      · have h := hA c_5
        clear hA hB
        show am_Run am_X0 (am_meth d) 68 R 32 [some (.ref 106), some (.ref 97), some (.int (nI p)), some (.int (I 98 p))] [.int 1] (am_mk I L, 0, 0)
        refine ar_b0 am_c_eq (t := 44) (q := 35) rfl rfl rfl (fun c9 => absurd c9 (by decide)) (fun _ => ?_)
        refine ar_aload_n (j := 0) (q := 36) rfl rfl rfl rfl ?_
        refine ar_iload_n (j := 3) (q := 37) rfl rfl rfl rfl ?_
        refine ar_iload_n (j := 2) (q := 38) rfl rfl rfl rfl ?_
        refine ar_invv (as := [.int (I 98 p), .int (nI p)]) (rest := []) (b2 := (0, 0)) (b3 := (0, 0)) (q := 41) rfl rfl rfl rfl mk_106 rfl rfl rfl rfl rfl ?_
        obtain ⟨j_6, hi_7, h⟩ := h
        obtain ⟨hp_9, h⟩ := h
        obtain ⟨hp_10, h⟩ := h
        obtain ⟨hA, hB⟩ := h
        refine ok_Ma_mayTake (by omega) hi_7 rfl hp_9 hp_10 (fun c_8 => ?_) (fun c_8 => ?_)
        · have h := hA c_8
          clear hA hB
          show am_Run am_X0 (am_meth d) 68 R 41 [some (.ref 106), some (.ref 97), some (.int (nI p)), some (.int (I 98 p))] [.int 1] (am_mk I L, 0, 0)
          refine ar_b0 am_c_ne (t := 46) (q := 44) rfl rfl rfl (fun _ => ?_) (fun c9 => absurd (by decide) c9)
          refine ar_aload_n (j := 1) (q := 47) rfl rfl rfl rfl ?_
          refine ar_iload_n (j := 3) (q := 48) rfl rfl rfl rfl ?_
          refine ar_invv (as := [.int (I 98 p)]) (rest := []) (b2 := (0, 0)) (b3 := (0, 0)) (q := 51) rfl rfl rfl rfl mk_97 rfl rfl rfl rfl rfl ?_
          refine am_meth_mono d _ _ _ _ _ (fun v9 m9 h9 => ?_) h
          obtain ⟨z_11, I_12, L_13, rfl, rfl, h⟩ := h9
          show am_Run am_X0 (am_meth d) 68 R 51 [some (.ref 106), some (.ref 97), some (.int (nI p)), some (.int (I 98 p))] [.int z_11] (am_mk I_12 L_13, 0, 0)
          refine ar_iload_n (j := 2) (q := 52) rfl rfl rfl rfl ?_
          obtain ⟨hA, hB⟩ := h
          refine ar_br am_d_ge (t := 57) (q := 55) rfl rfl rfl (fun c_14 => ?_) (fun c_14 => ?_)
          · have h := hB c_14
            clear hA hB
            refine ar_iinc (v := nI (p + 1)) (ls' := [some (.ref 106), some (.ref 97), some (.int (nI (p + 1))), some (.int (I 98 p))]) (q := 60) rfl rfl rfl (nI_1 _) rfl rfl ?_
            refine ar_goto (t := 2) rfl rfl ?_
            exact am_Run.weak (ls' := _) (by exact ⟨rfl, ⟨rfl, ⟨rfl, trivial⟩⟩⟩) h
          · have c_14 := Classical.not_not.mp c_14
            have h := hA c_14
            clear hA hB
            refine ar_iload_n (j := 2) (q := 56) rfl rfl rfl rfl ?_
            exact ar_iret rfl rfl h
        · have h := hB c_8
          clear hA hB
          show am_Run am_X0 (am_meth d) 68 R 41 [some (.ref 106), some (.ref 97), some (.int (nI p)), some (.int (I 98 p))] [.int 0] (am_mk I L, 0, 0)
          refine ar_b0 am_c_ne (t := 46) (q := 44) rfl rfl rfl (fun c9 => absurd (by decide) c9) (fun _ => ?_)
          refine ar_iload_n (j := 2) (q := 45) rfl rfl rfl rfl ?_
          exact ar_iret rfl rfl h
      · have h := hB c_5
        clear hA hB
        show am_Run am_X0 (am_meth d) 68 R 32 [some (.ref 106), some (.ref 97), some (.int (nI p)), some (.int (I 98 p))] [.int 0] (am_mk I L, 0, 0)
        refine ar_b0 am_c_eq (t := 44) (q := 35) rfl rfl rfl (fun _ => ?_) (fun c9 => absurd (by decide) c9)
        refine ar_iload_n (j := 2) (q := 45) rfl rfl rfl rfl ?_
        exact ar_iret rfl rfl h
    · have c_4 := Classical.not_not.mp c_4
      have h := hA c_4
      clear hA hB
      refine ar_goto (t := 57) rfl rfl ?_
      refine ar_iinc (v := nI (p + 1)) (ls' := [some (.ref 106), some (.ref 97), some (.int (nI (p + 1))), some (.int (I 98 p))]) (q := 60) rfl rfl rfl (nI_1 _) rfl rfl ?_
      refine ar_goto (t := 2) rfl rfl ?_
      exact am_Run.weak (ls' := _) (by exact ⟨rfl, ⟨rfl, ⟨rfl, trivial⟩⟩⟩) h
theorem r_Match_verdictOn_65 {d : Nat} {R : am_R} {I : Nat → Nat → Int32} {L : Nat → Nat → Int64} {p : Nat} (h : (((nI p) < (I 106 9) → (am_meth d 69 [.ref 106, .ref 97, .int (nI p)] (am_mk I L, 0, 0) (am_ri (fun z_2 I_3 L_4 => ((z_2 = 0 → (am_Run am_X0 (am_meth d) 68 R 65 [some (.ref 106), some (.ref 97), some (.int (nI (p + 1))), none] [] (am_mk I_3 L_4, 0, 0))) ∧ (¬ z_2 = 0 → (R (some (.int (20 + (nI p)))) (am_mk I_3 L_4, 0, 0)))))))) ∧ (¬ (nI p) < (I 106 9) → (R (some (.int (-9 : Int32))) (am_mk I L, 0, 0))))) : am_Run am_X0 (am_meth d) 68 R 65 [some (.ref 106), some (.ref 97), some (.int (nI p)), none] [] (am_mk I L, 0, 0) := by
  refine ar_iload_n (j := 2) (q := 66) rfl rfl rfl rfl ?_
  refine ar_aload_n (j := 0) (q := 67) rfl rfl rfl rfl ?_
  refine ar_getf (v := .int (I 106 9)) (q := 70) rfl rfl mk_106 rfl rfl ?_
  obtain ⟨hA, hB⟩ := h
  refine ar_br am_d_ge (t := 93) (q := 73) rfl rfl rfl (fun c_1 => ?_) (fun c_1 => ?_)
  · have h := hB c_1
    clear hA hB
    refine ar_bipush (v := (-9 : Int32)) (q := 95) rfl rfl rfl ?_
    exact ar_iret rfl rfl h
  · have c_1 := Classical.not_not.mp c_1
    have h := hA c_1
    clear hA hB
    refine ar_aload_n (j := 0) (q := 74) rfl rfl rfl rfl ?_
    refine ar_aload_n (j := 1) (q := 75) rfl rfl rfl rfl ?_
    refine ar_iload_n (j := 2) (q := 76) rfl rfl rfl rfl ?_
    refine ar_invv (as := [.ref 97, .int (nI p)]) (rest := []) (b2 := (0, 0)) (b3 := (0, 0)) (q := 79) rfl rfl rfl rfl mk_106 rfl rfl rfl rfl rfl ?_
    refine am_meth_mono d _ _ _ _ _ (fun v9 m9 h9 => ?_) h
    obtain ⟨z_2, I_3, L_4, rfl, rfl, h⟩ := h9
    show am_Run am_X0 (am_meth d) 68 R 79 [some (.ref 106), some (.ref 97), some (.int (nI p)), none] [.int z_2] (am_mk I_3 L_4, 0, 0)
    obtain ⟨hA, hB⟩ := h
    refine ar_b0 am_c_eq (t := 87) (q := 82) rfl rfl rfl (fun c_5 => ?_) (fun c_5 => ?_)
    · have h := hA c_5
      clear hA hB
      refine ar_iinc (v := nI (p + 1)) (ls' := [some (.ref 106), some (.ref 97), some (.int (nI (p + 1))), none]) (q := 90) rfl rfl rfl (nI_1 _) rfl rfl ?_
      refine ar_goto (t := 65) rfl rfl ?_
      exact am_Run.weak (ls' := _) (by exact ⟨rfl, ⟨rfl, ⟨rfl, trivial⟩⟩⟩) h
    · have h := hB c_5
      clear hA hB
      refine ar_bipush (v := 20) (q := 84) rfl rfl rfl ?_
      refine ar_iload_n (j := 2) (q := 85) rfl rfl rfl rfl ?_
      refine ar_ib (i := .iadd) (z := 20 + (nI p)) (q := 86) rfl rfl rfl rfl rfl ?_
      exact ar_iret rfl rfl h
theorem r_Match_wouldBeLeft_0 {d : Nat} (hd : 1 ≤ d) {R : am_R} {I : Nat → Nat → Int32} {L : Nat → Nat → Int64} {p : Nat} (h : (p < 6) ∧ ((nI p < I 97 0) ∧ (am_Run am_X0 (am_meth d) 69 R 9 [some (.ref 106), some (.ref 97), some (.int (nI p)), some (.int (I 98 p)), some (.int 0), none, none] [] (am_mk I L, 0, 0)))) : am_Run am_X0 (am_meth d) 69 R 0 [some (.ref 106), some (.ref 97), some (.int (nI p)), none, none, none, none] [] (am_mk I L, 0, 0) := by
  refine ar_aload_n (j := 1) (q := 1) rfl rfl rfl rfl ?_
  refine ar_iload_n (j := 2) (q := 2) rfl rfl rfl rfl ?_
  refine ar_invv (as := [.int (nI p)]) (rest := []) (b2 := (0, 0)) (b3 := (0, 0)) (q := 5) rfl rfl rfl rfl mk_97 rfl rfl rfl rfl rfl ?_
  obtain ⟨hp_1, h⟩ := h
  obtain ⟨hp_2, h⟩ := h
  refine ok_Ro_at_told (by omega) rfl hp_1 hp_2 ?_
  show am_Run am_X0 (am_meth d) 69 R 5 [some (.ref 106), some (.ref 97), some (.int (nI p)), none, none, none, none] [.int (I 98 p)] (am_mk I L, 0, 0)
  refine ar_istore_n (j := 3) (ls' := [some (.ref 106), some (.ref 97), some (.int (nI p)), some (.int (I 98 p)), none, none, none]) (q := 6) rfl rfl rfl rfl rfl ?_
  refine ar_iconst (v := 0) (q := 7) rfl rfl rfl ?_
  refine ar_istore (ls' := [some (.ref 106), some (.ref 97), some (.int (nI p)), some (.int (I 98 p)), some (.int 0), none, none]) (q := 9) rfl rfl rfl rfl ?_
  exact am_Run.weak (ls' := _) (by exact ⟨rfl, ⟨rfl, ⟨rfl, ⟨rfl, ⟨rfl, trivial⟩⟩⟩⟩⟩) h
theorem r_Match_wouldBeLeft_9 {d : Nat} (hd : 1 ≤ d) {R : am_R} {I : Nat → Nat → Int32} {L : Nat → Nat → Int64} {p : Nat} {hd9 : Int32} {k : Nat} (h : (((nI k) < (I 16 0) → ((((nI k) = hd9 → (am_Run am_X0 (am_meth d) 69 R 9 [some (.ref 106), some (.ref 97), some (.int (nI p)), some (.int hd9), some (.int (nI (k + 1))), none, none] [] (am_mk I L, 0, 0))) ∧ (¬ (nI k) = hd9 → ((k < 32) ∧ ((p < 6) ∧ (((am_bt (I 109 p) k = true → (am_meth d 90 [.ref 97, .int (nI k)] (am_mk I L, 0, 0) (am_ri (fun z_6 I_7 L_8 => ((z_6 < (I_7 106 9) → (am_meth d 65 [.ref 106, .int (nI k), .int (nI p), .int z_6] (am_mk I_7 L_8, 0, 0) (am_ri (fun z_10 I_11 L_12 => ((z_10 = 0 → (am_Run am_X0 (am_meth d) 69 R 9 [some (.ref 106), some (.ref 97), some (.int (nI p)), some (.int hd9), some (.int (nI (k + 1))), none, none] [] (am_mk I_11 L_12, 0, 0))) ∧ (¬ z_10 = 0 → (((hd9 = (-1 : Int32) → (R (some (.int 1)) (am_mk I_11 L_12, 0, 0))) ∧ (¬ hd9 = (-1 : Int32) → (am_meth d 67 [.ref 106, .int (nI k), .int hd9] (am_mk I_11 L_12, 0, 0) (am_ri (fun z_15 I_16 L_17 => ((z_15 = 0 → (am_Run am_X0 (am_meth d) 69 R 9 [some (.ref 106), some (.ref 97), some (.int (nI p)), some (.int hd9), some (.int (nI (k + 1))), none, none] [] (am_mk I_16 L_17, 0, 0))) ∧ (¬ z_15 = 0 → (R (some (.int 1)) (am_mk I_16 L_17, 0, 0)))))))))))))))) ∧ (¬ z_6 < (I_7 106 9) → (((hd9 = (-1 : Int32) → (R (some (.int 1)) (am_mk I_7 L_8, 0, 0))) ∧ (¬ hd9 = (-1 : Int32) → (am_meth d 67 [.ref 106, .int (nI k), .int hd9] (am_mk I_7 L_8, 0, 0) (am_ri (fun z_20 I_21 L_22 => ((z_20 = 0 → (am_Run am_X0 (am_meth d) 69 R 9 [some (.ref 106), some (.ref 97), some (.int (nI p)), some (.int hd9), some (.int (nI (k + 1))), none, none] [] (am_mk I_21 L_22, 0, 0))) ∧ (¬ z_20 = 0 → (R (some (.int 1)) (am_mk I_21 L_22, 0, 0)))))))))))))))) ∧ (¬ (am_bt (I 109 p) k = true) → (am_Run am_X0 (am_meth d) 69 R 9 [some (.ref 106), some (.ref 97), some (.int (nI p)), some (.int hd9), some (.int (nI (k + 1))), none, none] [] (am_mk I L, 0, 0))))))))))) ∧ (¬ (nI k) < (I 16 0) → (R (some (.int 0)) (am_mk I L, 0, 0))))) : am_Run am_X0 (am_meth d) 69 R 9 [some (.ref 106), some (.ref 97), some (.int (nI p)), some (.int hd9), some (.int (nI k)), none, none] [] (am_mk I L, 0, 0) := by
  refine ar_iload (q := 11) rfl rfl rfl ?_
  refine ar_aload_n (j := 0) (q := 12) rfl rfl rfl rfl ?_
  refine ar_getf (v := .ref 16) (q := 15) rfl rfl mk_106 rfl rfl ?_
  refine ar_getf (v := .int (I 16 0)) (q := 18) rfl rfl mk_16 rfl rfl ?_
  obtain ⟨hA, hB⟩ := h
  refine ar_br am_d_ge (t := 104) (q := 21) rfl rfl rfl (fun c_1 => ?_) (fun c_1 => ?_)
  · have h := hB c_1
    clear hA hB
    refine ar_iconst (v := 0) (q := 105) rfl rfl rfl ?_
    exact ar_zret rfl rfl (Or.inl rfl) h
  · have c_1 := Classical.not_not.mp c_1
    have h := hA c_1
    clear hA hB
    refine ar_iload (q := 23) rfl rfl rfl ?_
    refine ar_iload_n (j := 3) (q := 24) rfl rfl rfl rfl ?_
    obtain ⟨hA, hB⟩ := h
    refine ar_br am_c_eq (t := 98) (q := 27) rfl rfl rfl (fun c_2 => ?_) (fun c_2 => ?_)
    · have h := hA c_2
      clear hA hB
      refine ar_iinc (v := nI (k + 1)) (ls' := [some (.ref 106), some (.ref 97), some (.int (nI p)), some (.int hd9), some (.int (nI (k + 1))), none, none]) (q := 101) rfl rfl rfl (nI_1 _) rfl rfl ?_
      refine ar_goto (t := 9) rfl rfl ?_
      exact am_Run.weak (ls' := _) (by exact ⟨rfl, ⟨rfl, ⟨rfl, ⟨rfl, ⟨rfl, trivial⟩⟩⟩⟩⟩) h
    · have h := hB c_2
      clear hA hB
      refine ar_aload_n (j := 0) (q := 28) rfl rfl rfl rfl ?_
      refine ar_iload (q := 30) rfl rfl rfl ?_
      refine ar_iload_n (j := 2) (q := 31) rfl rfl rfl rfl ?_
      refine ar_invv (as := [.int (nI k), .int (nI p)]) (rest := []) (b2 := (0, 0)) (b3 := (0, 0)) (q := 34) rfl rfl rfl rfl mk_106 rfl rfl rfl rfl rfl ?_
      obtain ⟨hp_4, h⟩ := h
      obtain ⟨hp_5, h⟩ := h
      obtain ⟨hA, hB⟩ := h
      refine ok_Ma_mayTake (by omega) rfl rfl hp_4 hp_5 (fun c_3 => ?_) (fun c_3 => ?_)
      · have h := hA c_3
        clear hA hB
        show am_Run am_X0 (am_meth d) 69 R 34 [some (.ref 106), some (.ref 97), some (.int (nI p)), some (.int hd9), some (.int (nI k)), none, none] [.int 1] (am_mk I L, 0, 0)
        refine ar_b0 am_c_ne (t := 40) (q := 37) rfl rfl rfl (fun _ => ?_) (fun c9 => absurd (by decide) c9)
        refine ar_aload_n (j := 1) (q := 41) rfl rfl rfl rfl ?_
        refine ar_iload (q := 43) rfl rfl rfl ?_
        refine ar_invv (as := [.int (nI k)]) (rest := []) (b2 := (0, 0)) (b3 := (0, 0)) (q := 46) rfl rfl rfl rfl mk_97 rfl rfl rfl rfl rfl ?_
        refine am_meth_mono d _ _ _ _ _ (fun v9 m9 h9 => ?_) h
        obtain ⟨z_6, I_7, L_8, rfl, rfl, h⟩ := h9
        show am_Run am_X0 (am_meth d) 69 R 46 [some (.ref 106), some (.ref 97), some (.int (nI p)), some (.int hd9), some (.int (nI k)), none, none] [.int z_6] (am_mk I_7 L_8, 0, 0)
        refine ar_istore (ls' := [some (.ref 106), some (.ref 97), some (.int (nI p)), some (.int hd9), some (.int (nI k)), some (.int z_6), none]) (q := 48) rfl rfl rfl rfl ?_
        refine ar_iload (q := 50) rfl rfl rfl ?_
        refine ar_aload_n (j := 0) (q := 51) rfl rfl rfl rfl ?_
        refine ar_getf (v := .int (I_7 106 9)) (q := 54) rfl rfl mk_106 rfl rfl ?_
        obtain ⟨hA, hB⟩ := h
        refine ar_br am_d_ge (t := 69) (q := 57) rfl rfl rfl (fun c_9 => ?_) (fun c_9 => ?_)
        · have h := hB c_9
          clear hA hB
          refine ar_iconst (v := 1) (q := 70) rfl rfl rfl ?_
          refine ar_goto (t := 74) rfl rfl ?_
          refine ar_istore (ls' := [some (.ref 106), some (.ref 97), some (.int (nI p)), some (.int hd9), some (.int (nI k)), some (.int z_6), some (.int 1)]) (q := 76) rfl rfl rfl rfl ?_
          refine ar_iload (q := 78) rfl rfl rfl ?_
          refine ar_b0 am_c_eq (t := 98) (q := 81) rfl rfl rfl (fun c9 => absurd c9 (by decide)) (fun _ => ?_)
          refine ar_iload_n (j := 3) (q := 82) rfl rfl rfl rfl ?_
          refine ar_iconst (v := (-1 : Int32)) (q := 83) rfl rfl rfl ?_
          obtain ⟨hA, hB⟩ := h
          refine ar_br am_c_eq (t := 96) (q := 86) rfl rfl rfl (fun c_19 => ?_) (fun c_19 => ?_)
          · have h := hA c_19
            clear hA hB
            refine ar_iconst (v := 1) (q := 97) rfl rfl rfl ?_
            exact ar_zret rfl rfl (Or.inr rfl) h
          · have h := hB c_19
            clear hA hB
            refine ar_aload_n (j := 0) (q := 87) rfl rfl rfl rfl ?_
            refine ar_iload (q := 89) rfl rfl rfl ?_
            refine ar_iload_n (j := 3) (q := 90) rfl rfl rfl rfl ?_
            refine ar_invv (as := [.int (nI k), .int hd9]) (rest := []) (b2 := (0, 0)) (b3 := (0, 0)) (q := 93) rfl rfl rfl rfl mk_106 rfl rfl rfl rfl rfl ?_
            refine am_meth_mono d _ _ _ _ _ (fun v9 m9 h9 => ?_) h
            obtain ⟨z_20, I_21, L_22, rfl, rfl, h⟩ := h9
            show am_Run am_X0 (am_meth d) 69 R 93 [some (.ref 106), some (.ref 97), some (.int (nI p)), some (.int hd9), some (.int (nI k)), some (.int z_6), some (.int 1)] [.int z_20] (am_mk I_21 L_22, 0, 0)
            obtain ⟨hA, hB⟩ := h
            refine ar_b0 am_c_eq (t := 98) (q := 96) rfl rfl rfl (fun c_23 => ?_) (fun c_23 => ?_)
            · have h := hA c_23
              clear hA hB
              refine ar_iinc (v := nI (k + 1)) (ls' := [some (.ref 106), some (.ref 97), some (.int (nI p)), some (.int hd9), some (.int (nI (k + 1))), some (.int z_6), some (.int 1)]) (q := 101) rfl rfl rfl (nI_1 _) rfl rfl ?_
              refine ar_goto (t := 9) rfl rfl ?_
              exact am_Run.weak (ls' := _) (by exact ⟨rfl, ⟨rfl, ⟨rfl, ⟨rfl, ⟨rfl, trivial⟩⟩⟩⟩⟩) h
            · have h := hB c_23
              clear hA hB
              refine ar_iconst (v := 1) (q := 97) rfl rfl rfl ?_
              exact ar_zret rfl rfl (Or.inr rfl) h
        · have c_9 := Classical.not_not.mp c_9
          have h := hA c_9
          clear hA hB
          refine ar_aload_n (j := 0) (q := 58) rfl rfl rfl rfl ?_
          refine ar_iload (q := 60) rfl rfl rfl ?_
          refine ar_iload_n (j := 2) (q := 61) rfl rfl rfl rfl ?_
          refine ar_iload (q := 63) rfl rfl rfl ?_
          refine ar_invv (as := [.int (nI k), .int (nI p), .int z_6]) (rest := []) (b2 := (0, 0)) (b3 := (0, 0)) (q := 66) rfl rfl rfl rfl mk_106 rfl rfl rfl rfl rfl ?_
          refine am_meth_mono d _ _ _ _ _ (fun v9 m9 h9 => ?_) h
          obtain ⟨z_10, I_11, L_12, rfl, rfl, h⟩ := h9
          show am_Run am_X0 (am_meth d) 69 R 66 [some (.ref 106), some (.ref 97), some (.int (nI p)), some (.int hd9), some (.int (nI k)), some (.int z_6), none] [.int z_10] (am_mk I_11 L_12, 0, 0)
          obtain ⟨hA, hB⟩ := h
          refine ar_b0 am_c_eq (t := 73) (q := 69) rfl rfl rfl (fun c_13 => ?_) (fun c_13 => ?_)
          · have h := hA c_13
            clear hA hB
            refine ar_iconst (v := 0) (q := 74) rfl rfl rfl ?_
            refine ar_istore (ls' := [some (.ref 106), some (.ref 97), some (.int (nI p)), some (.int hd9), some (.int (nI k)), some (.int z_6), some (.int 0)]) (q := 76) rfl rfl rfl rfl ?_
            refine ar_iload (q := 78) rfl rfl rfl ?_
            refine ar_b0 am_c_eq (t := 98) (q := 81) rfl rfl rfl (fun _ => ?_) (fun c9 => absurd (by decide) c9)
            refine ar_iinc (v := nI (k + 1)) (ls' := [some (.ref 106), some (.ref 97), some (.int (nI p)), some (.int hd9), some (.int (nI (k + 1))), some (.int z_6), some (.int 0)]) (q := 101) rfl rfl rfl (nI_1 _) rfl rfl ?_
            refine ar_goto (t := 9) rfl rfl ?_
            exact am_Run.weak (ls' := _) (by exact ⟨rfl, ⟨rfl, ⟨rfl, ⟨rfl, ⟨rfl, trivial⟩⟩⟩⟩⟩) h
          · have h := hB c_13
            clear hA hB
            refine ar_iconst (v := 1) (q := 70) rfl rfl rfl ?_
            refine ar_goto (t := 74) rfl rfl ?_
            refine ar_istore (ls' := [some (.ref 106), some (.ref 97), some (.int (nI p)), some (.int hd9), some (.int (nI k)), some (.int z_6), some (.int 1)]) (q := 76) rfl rfl rfl rfl ?_
            refine ar_iload (q := 78) rfl rfl rfl ?_
            refine ar_b0 am_c_eq (t := 98) (q := 81) rfl rfl rfl (fun c9 => absurd c9 (by decide)) (fun _ => ?_)
            refine ar_iload_n (j := 3) (q := 82) rfl rfl rfl rfl ?_
            refine ar_iconst (v := (-1 : Int32)) (q := 83) rfl rfl rfl ?_
            obtain ⟨hA, hB⟩ := h
            refine ar_br am_c_eq (t := 96) (q := 86) rfl rfl rfl (fun c_14 => ?_) (fun c_14 => ?_)
            · have h := hA c_14
              clear hA hB
              refine ar_iconst (v := 1) (q := 97) rfl rfl rfl ?_
              exact ar_zret rfl rfl (Or.inr rfl) h
            · have h := hB c_14
              clear hA hB
              refine ar_aload_n (j := 0) (q := 87) rfl rfl rfl rfl ?_
              refine ar_iload (q := 89) rfl rfl rfl ?_
              refine ar_iload_n (j := 3) (q := 90) rfl rfl rfl rfl ?_
              refine ar_invv (as := [.int (nI k), .int hd9]) (rest := []) (b2 := (0, 0)) (b3 := (0, 0)) (q := 93) rfl rfl rfl rfl mk_106 rfl rfl rfl rfl rfl ?_
              refine am_meth_mono d _ _ _ _ _ (fun v9 m9 h9 => ?_) h
              obtain ⟨z_15, I_16, L_17, rfl, rfl, h⟩ := h9
              show am_Run am_X0 (am_meth d) 69 R 93 [some (.ref 106), some (.ref 97), some (.int (nI p)), some (.int hd9), some (.int (nI k)), some (.int z_6), some (.int 1)] [.int z_15] (am_mk I_16 L_17, 0, 0)
              obtain ⟨hA, hB⟩ := h
              refine ar_b0 am_c_eq (t := 98) (q := 96) rfl rfl rfl (fun c_18 => ?_) (fun c_18 => ?_)
              · have h := hA c_18
                clear hA hB
                refine ar_iinc (v := nI (k + 1)) (ls' := [some (.ref 106), some (.ref 97), some (.int (nI p)), some (.int hd9), some (.int (nI (k + 1))), some (.int z_6), some (.int 1)]) (q := 101) rfl rfl rfl (nI_1 _) rfl rfl ?_
                refine ar_goto (t := 9) rfl rfl ?_
                exact am_Run.weak (ls' := _) (by exact ⟨rfl, ⟨rfl, ⟨rfl, ⟨rfl, ⟨rfl, trivial⟩⟩⟩⟩⟩) h
              · have h := hB c_18
                clear hA hB
                refine ar_iconst (v := 1) (q := 97) rfl rfl rfl ?_
                exact ar_zret rfl rfl (Or.inr rfl) h
      · have h := hB c_3
        clear hA hB
        show am_Run am_X0 (am_meth d) 69 R 34 [some (.ref 106), some (.ref 97), some (.int (nI p)), some (.int hd9), some (.int (nI k)), none, none] [.int 0] (am_mk I L, 0, 0)
        refine ar_b0 am_c_ne (t := 40) (q := 37) rfl rfl rfl (fun c9 => absurd (by decide) c9) (fun _ => ?_)
        refine ar_goto (t := 98) rfl rfl ?_
        refine ar_iinc (v := nI (k + 1)) (ls' := [some (.ref 106), some (.ref 97), some (.int (nI p)), some (.int hd9), some (.int (nI (k + 1))), none, none]) (q := 101) rfl rfl rfl (nI_1 _) rfl rfl ?_
        refine ar_goto (t := 9) rfl rfl ?_
        exact am_Run.weak (ls' := _) (by exact ⟨rfl, ⟨rfl, ⟨rfl, ⟨rfl, ⟨rfl, trivial⟩⟩⟩⟩⟩) h
theorem r_H_pair_0 {d : Nat} {R : am_R} {I : Nat → Nat → Int32} {L : Nat → Nat → Int64} {x : Int32} (h : am_meth d 32 [.ref 0] (am_mk I L, 0, 0) (am_ri (fun z_1 I_2 L_3 => ((z_1 = 0 → (((x < 0 → (am_meth d 2 [.ref 0, .int (-2 : Int32)] (am_mk I_2 L_3, 0, 0) (am_ri (fun z_6 I_7 L_8 => R (some (.int z_6)) (am_mk I_7 L_8, 0, 0))))) ∧ (¬ x < 0 → (((x < (I_2 95 0) → (am_meth d 60 [.ref 106, .ref 95] (am_mk I_2 L_3, 0, 0) (am_rv (fun I_10 L_11 => am_meth d 61 [.ref 106] (am_mk I_10 L_11, 0, 0) (am_rv (fun I_12 L_13 => ∃ j_14 : Nat, j_14 < 6 ∧ x = nI j_14 ∧ (R (some (.int (I_12 107 j_14))) (am_mk I_12 L_13, 0, 0)))))))) ∧ (¬ x < (I_2 95 0) → (am_meth d 2 [.ref 0, .int (-2 : Int32)] (am_mk I_2 L_3, 0, 0) (am_ri (fun z_17 I_18 L_19 => R (some (.int z_17)) (am_mk I_18 L_19, 0, 0))))))))))) ∧ (¬ z_1 = 0 → (am_meth d 2 [.ref 0, .int z_1] (am_mk I_2 L_3, 0, 0) (am_ri (fun z_20 I_21 L_22 => R (some (.int z_20)) (am_mk I_21 L_22, 0, 0))))))))) : am_Run am_X0 (am_meth d) 31 R 0 [some (.ref 0), some (.int x), none] [] (am_mk I L, 0, 0) := by
  refine ar_aload_n (j := 0) (q := 1) rfl rfl rfl rfl ?_
  refine ar_invv (as := []) (rest := []) (b2 := (0, 0)) (b3 := (0, 0)) (q := 4) rfl rfl rfl rfl mk_0 rfl rfl rfl rfl rfl ?_
  refine am_meth_mono d _ _ _ _ _ (fun v9 m9 h9 => ?_) h
  obtain ⟨z_1, I_2, L_3, rfl, rfl, h⟩ := h9
  show am_Run am_X0 (am_meth d) 31 R 4 [some (.ref 0), some (.int x), none] [.int z_1] (am_mk I_2 L_3, 0, 0)
  refine ar_istore_n (j := 2) (ls' := [some (.ref 0), some (.int x), some (.int z_1)]) (q := 5) rfl rfl rfl rfl rfl ?_
  refine ar_iload_n (j := 2) (q := 6) rfl rfl rfl rfl ?_
  obtain ⟨hA, hB⟩ := h
  refine ar_b0 am_c_eq (t := 15) (q := 9) rfl rfl rfl (fun c_4 => ?_) (fun c_4 => ?_)
  · have h := hA c_4
    clear hA hB
    refine ar_iload_n (j := 1) (q := 16) rfl rfl rfl rfl ?_
    obtain ⟨hA, hB⟩ := h
    refine ar_b0 am_c_lt (t := 30) (q := 19) rfl rfl rfl (fun c_5 => ?_) (fun c_5 => ?_)
    · have h := hA c_5
      clear hA hB
      refine ar_aload_n (j := 0) (q := 31) rfl rfl rfl rfl ?_
      refine ar_bipush (v := (-2 : Int32)) (q := 33) rfl rfl rfl ?_
      refine ar_invv (as := [.int (-2 : Int32)]) (rest := []) (b2 := (0, 0)) (b3 := (0, 0)) (q := 36) rfl rfl rfl rfl mk_0 rfl rfl rfl rfl rfl ?_
      refine am_meth_mono d _ _ _ _ _ (fun v9 m9 h9 => ?_) h
      obtain ⟨z_6, I_7, L_8, rfl, rfl, h⟩ := h9
      show am_Run am_X0 (am_meth d) 31 R 36 [some (.ref 0), some (.int x), some (.int z_1)] [.int z_6] (am_mk I_7 L_8, 0, 0)
      exact ar_iret rfl rfl h
    · have h := hB c_5
      clear hA hB
      refine ar_iload_n (j := 1) (q := 20) rfl rfl rfl rfl ?_
      refine ar_aload_n (j := 0) (q := 21) rfl rfl rfl rfl ?_
      refine ar_getf (v := .ref 95) (q := 24) rfl rfl mk_0 rfl rfl ?_
      refine ar_getf (v := .int (I_2 95 0)) (q := 27) rfl rfl mk_95 rfl rfl ?_
      obtain ⟨hA, hB⟩ := h
      refine ar_br am_c_lt (t := 37) (q := 30) rfl rfl rfl (fun c_9 => ?_) (fun c_9 => ?_)
      · have h := hA c_9
        clear hA hB
        refine ar_aload_n (j := 0) (q := 38) rfl rfl rfl rfl ?_
        refine ar_getf (v := .ref 106) (q := 41) rfl rfl mk_0 rfl rfl ?_
        refine ar_aload_n (j := 0) (q := 42) rfl rfl rfl rfl ?_
        refine ar_getf (v := .ref 95) (q := 45) rfl rfl mk_0 rfl rfl ?_
        refine ar_invv (as := [.ref 95]) (rest := []) (b2 := (0, 0)) (b3 := (0, 0)) (q := 48) rfl rfl rfl rfl mk_106 rfl rfl rfl rfl rfl ?_
        refine am_meth_mono d _ _ _ _ _ (fun v9 m9 h9 => ?_) h
        obtain ⟨I_10, L_11, rfl, rfl, h⟩ := h9
        show am_Run am_X0 (am_meth d) 31 R 48 [some (.ref 0), some (.int x), some (.int z_1)] [] (am_mk I_10 L_11, 0, 0)
        refine ar_aload_n (j := 0) (q := 49) rfl rfl rfl rfl ?_
        refine ar_getf (v := .ref 106) (q := 52) rfl rfl mk_0 rfl rfl ?_
        refine ar_invv (as := []) (rest := []) (b2 := (0, 0)) (b3 := (0, 0)) (q := 55) rfl rfl rfl rfl mk_106 rfl rfl rfl rfl rfl ?_
        refine am_meth_mono d _ _ _ _ _ (fun v9 m9 h9 => ?_) h
        obtain ⟨I_12, L_13, rfl, rfl, h⟩ := h9
        show am_Run am_X0 (am_meth d) 31 R 55 [some (.ref 0), some (.int x), some (.int z_1)] [] (am_mk I_12 L_13, 0, 0)
        refine ar_aload_n (j := 0) (q := 56) rfl rfl rfl rfl ?_
        refine ar_getf (v := .ref 106) (q := 59) rfl rfl mk_0 rfl rfl ?_
        refine ar_getf (v := .ref 107) (q := 62) rfl rfl mk_106 rfl rfl ?_
        refine ar_iload_n (j := 1) (q := 63) rfl rfl rfl rfl ?_
        obtain ⟨j_14, hx_15, hi_16, h⟩ := h
        refine ar_iald (v := I_12 107 j_14) (q := 64) rfl mk_107 (am_inE hi_16 hx_15 (by decide)) (am_clE (n := 6) hi_16 hx_15 (by decide)) rfl ?_
        exact ar_iret rfl rfl h
      · have h := hB c_9
        clear hA hB
        refine ar_aload_n (j := 0) (q := 31) rfl rfl rfl rfl ?_
        refine ar_bipush (v := (-2 : Int32)) (q := 33) rfl rfl rfl ?_
        refine ar_invv (as := [.int (-2 : Int32)]) (rest := []) (b2 := (0, 0)) (b3 := (0, 0)) (q := 36) rfl rfl rfl rfl mk_0 rfl rfl rfl rfl rfl ?_
        refine am_meth_mono d _ _ _ _ _ (fun v9 m9 h9 => ?_) h
        obtain ⟨z_17, I_18, L_19, rfl, rfl, h⟩ := h9
        show am_Run am_X0 (am_meth d) 31 R 36 [some (.ref 0), some (.int x), some (.int z_1)] [.int z_17] (am_mk I_18 L_19, 0, 0)
        exact ar_iret rfl rfl h
  · have h := hB c_4
    clear hA hB
    refine ar_aload_n (j := 0) (q := 10) rfl rfl rfl rfl ?_
    refine ar_iload_n (j := 2) (q := 11) rfl rfl rfl rfl ?_
    refine ar_invv (as := [.int z_1]) (rest := []) (b2 := (0, 0)) (b3 := (0, 0)) (q := 14) rfl rfl rfl rfl mk_0 rfl rfl rfl rfl rfl ?_
    refine am_meth_mono d _ _ _ _ _ (fun v9 m9 h9 => ?_) h
    obtain ⟨z_20, I_21, L_22, rfl, rfl, h⟩ := h9
    show am_Run am_X0 (am_meth d) 31 R 14 [some (.ref 0), some (.int x), some (.int z_1)] [.int z_20] (am_mk I_21 L_22, 0, 0)
    exact ar_iret rfl rfl h
theorem r_H_judge_0 {d : Nat} (hd : 1 ≤ d) {R : am_R} {I : Nat → Nat → Int32} {L : Nat → Nat → Int64}  (h : am_meth d 32 [.ref 0] (am_mk I L, 0, 0) (am_ri (fun z_1 I_2 L_3 => ((z_1 = 0 → ((((I_2 97 0) = (I_2 95 0) → (am_meth d 60 [.ref 106, .ref 95] (am_mk I_2 L_3, 0, 0) (am_rv (fun I_6 L_7 => am_meth d 68 [.ref 106, .ref 97] (am_mk I_6 L_7, 0, 0) (am_ri (fun z_8 I_9 L_10 => R (some (.int z_8)) (am_mk (va_up I_9 97 (upd (I_9 97) 0 0)) L_10, 0, 0))))))) ∧ (¬ (I_2 97 0) = (I_2 95 0) → (am_meth d 2 [.ref 0, .int (-3 : Int32)] (am_mk I_2 L_3, 0, 0) (am_ri (fun z_11 I_12 L_13 => R (some (.int z_11)) (am_mk I_12 L_13, 0, 0)))))))) ∧ (¬ z_1 = 0 → (am_meth d 2 [.ref 0, .int z_1] (am_mk I_2 L_3, 0, 0) (am_ri (fun z_14 I_15 L_16 => R (some (.int z_14)) (am_mk I_15 L_16, 0, 0))))))))) : am_Run am_X0 (am_meth d) 34 R 0 [some (.ref 0), none, none] [] (am_mk I L, 0, 0) := by
  refine ar_aload_n (j := 0) (q := 1) rfl rfl rfl rfl ?_
  refine ar_invv (as := []) (rest := []) (b2 := (0, 0)) (b3 := (0, 0)) (q := 4) rfl rfl rfl rfl mk_0 rfl rfl rfl rfl rfl ?_
  refine am_meth_mono d _ _ _ _ _ (fun v9 m9 h9 => ?_) h
  obtain ⟨z_1, I_2, L_3, rfl, rfl, h⟩ := h9
  show am_Run am_X0 (am_meth d) 34 R 4 [some (.ref 0), none, none] [.int z_1] (am_mk I_2 L_3, 0, 0)
  refine ar_istore_n (j := 1) (ls' := [some (.ref 0), some (.int z_1), none]) (q := 5) rfl rfl rfl rfl rfl ?_
  refine ar_iload_n (j := 1) (q := 6) rfl rfl rfl rfl ?_
  obtain ⟨hA, hB⟩ := h
  refine ar_b0 am_c_eq (t := 15) (q := 9) rfl rfl rfl (fun c_4 => ?_) (fun c_4 => ?_)
  · have h := hA c_4
    clear hA hB
    refine ar_aload_n (j := 0) (q := 16) rfl rfl rfl rfl ?_
    refine ar_getf (v := .ref 97) (q := 19) rfl rfl mk_0 rfl rfl ?_
    refine ar_getf (v := .int (I_2 97 0)) (q := 22) rfl rfl mk_97 rfl rfl ?_
    refine ar_aload_n (j := 0) (q := 23) rfl rfl rfl rfl ?_
    refine ar_getf (v := .ref 95) (q := 26) rfl rfl mk_0 rfl rfl ?_
    refine ar_getf (v := .int (I_2 95 0)) (q := 29) rfl rfl mk_95 rfl rfl ?_
    obtain ⟨hA, hB⟩ := h
    refine ar_br am_c_eq (t := 39) (q := 32) rfl rfl rfl (fun c_5 => ?_) (fun c_5 => ?_)
    · have h := hA c_5
      clear hA hB
      refine ar_aload_n (j := 0) (q := 40) rfl rfl rfl rfl ?_
      refine ar_getf (v := .ref 106) (q := 43) rfl rfl mk_0 rfl rfl ?_
      refine ar_aload_n (j := 0) (q := 44) rfl rfl rfl rfl ?_
      refine ar_getf (v := .ref 95) (q := 47) rfl rfl mk_0 rfl rfl ?_
      refine ar_invv (as := [.ref 95]) (rest := []) (b2 := (0, 0)) (b3 := (0, 0)) (q := 50) rfl rfl rfl rfl mk_106 rfl rfl rfl rfl rfl ?_
      refine am_meth_mono d _ _ _ _ _ (fun v9 m9 h9 => ?_) h
      obtain ⟨I_6, L_7, rfl, rfl, h⟩ := h9
      show am_Run am_X0 (am_meth d) 34 R 50 [some (.ref 0), some (.int z_1), none] [] (am_mk I_6 L_7, 0, 0)
      refine ar_aload_n (j := 0) (q := 51) rfl rfl rfl rfl ?_
      refine ar_getf (v := .ref 106) (q := 54) rfl rfl mk_0 rfl rfl ?_
      refine ar_aload_n (j := 0) (q := 55) rfl rfl rfl rfl ?_
      refine ar_getf (v := .ref 97) (q := 58) rfl rfl mk_0 rfl rfl ?_
      refine ar_invv (as := [.ref 97]) (rest := []) (b2 := (0, 0)) (b3 := (0, 0)) (q := 61) rfl rfl rfl rfl mk_106 rfl rfl rfl rfl rfl ?_
      refine am_meth_mono d _ _ _ _ _ (fun v9 m9 h9 => ?_) h
      obtain ⟨z_8, I_9, L_10, rfl, rfl, h⟩ := h9
      show am_Run am_X0 (am_meth d) 34 R 61 [some (.ref 0), some (.int z_1), none] [.int z_8] (am_mk I_9 L_10, 0, 0)
      refine ar_istore_n (j := 2) (ls' := [some (.ref 0), some (.int z_1), some (.int z_8)]) (q := 62) rfl rfl rfl rfl rfl ?_
      refine ar_aload_n (j := 0) (q := 63) rfl rfl rfl rfl ?_
      refine ar_getf (v := .ref 97) (q := 66) rfl rfl mk_0 rfl rfl ?_
      refine ar_invv (as := []) (rest := []) (b2 := (0, 0)) (b3 := (0, 0)) (q := 69) rfl rfl rfl rfl mk_97 rfl rfl rfl rfl rfl ?_
      refine ok_Ro_clear_told (by omega)  ?_
      show am_Run am_X0 (am_meth d) 34 R 69 [some (.ref 0), some (.int z_1), some (.int z_8)] [] (am_mk (va_up I_9 97 (upd (I_9 97) 0 0)) L_10, 0, 0)
      refine ar_iload_n (j := 2) (q := 70) rfl rfl rfl rfl ?_
      exact ar_iret rfl rfl h
    · have h := hB c_5
      clear hA hB
      refine ar_aload_n (j := 0) (q := 33) rfl rfl rfl rfl ?_
      refine ar_bipush (v := (-3 : Int32)) (q := 35) rfl rfl rfl ?_
      refine ar_invv (as := [.int (-3 : Int32)]) (rest := []) (b2 := (0, 0)) (b3 := (0, 0)) (q := 38) rfl rfl rfl rfl mk_0 rfl rfl rfl rfl rfl ?_
      refine am_meth_mono d _ _ _ _ _ (fun v9 m9 h9 => ?_) h
      obtain ⟨z_11, I_12, L_13, rfl, rfl, h⟩ := h9
      show am_Run am_X0 (am_meth d) 34 R 38 [some (.ref 0), some (.int z_1), none] [.int z_11] (am_mk I_12 L_13, 0, 0)
      exact ar_iret rfl rfl h
  · have h := hB c_4
    clear hA hB
    refine ar_aload_n (j := 0) (q := 10) rfl rfl rfl rfl ?_
    refine ar_iload_n (j := 1) (q := 11) rfl rfl rfl rfl ?_
    refine ar_invv (as := [.int z_1]) (rest := []) (b2 := (0, 0)) (b3 := (0, 0)) (q := 14) rfl rfl rfl rfl mk_0 rfl rfl rfl rfl rfl ?_
    refine am_meth_mono d _ _ _ _ _ (fun v9 m9 h9 => ?_) h
    obtain ⟨z_14, I_15, L_16, rfl, rfl, h⟩ := h9
    show am_Run am_X0 (am_meth d) 34 R 14 [some (.ref 0), some (.int z_1), none] [.int z_14] (am_mk I_15 L_16, 0, 0)
    exact ar_iret rfl rfl h
theorem r_M_wished_0 {d : Nat} (hd : 1 ≤ d) {R : am_R} {I : Nat → Nat → Int32} {L : Nat → Nat → Int64} {k : Nat} {p : Nat} (h : p < 12 ∧ (∃ j_2 : Nat, I 146 p = nI j_2 ∧ ((j_2 < 60) ∧ ((am_ix I 125 j_2 20) ∧ (∃ j_6 : Nat, j_6 < 10 ∧ I 122 (am_n I 125 j_2) = nI j_6 ∧ (∃ j_9 : Nat, j_9 < 100 ∧ ((nI k) * 5) + (I 114 j_6) = nI j_9 ∧ (R (some (.int (I 121 j_9))) (am_mk I L, 0, 0)))))))) : am_Run am_X0 (am_meth d) 222 R 0 [some (.ref 113), some (.int (nI k)), some (.int (nI p))] [] (am_mk I L, 0, 0) := by
  refine ar_aload_n (j := 0) (q := 1) rfl rfl rfl rfl ?_
  refine ar_getf (v := .ref 121) (q := 4) rfl rfl mk_113 rfl rfl ?_
  refine ar_iload_n (j := 1) (q := 5) rfl rfl rfl rfl ?_
  refine ar_iconst (v := 5) (q := 6) rfl rfl rfl ?_
  refine ar_ib (i := .imul) (z := (nI k) * 5) (q := 7) rfl rfl rfl rfl rfl ?_
  refine ar_aload_n (j := 0) (q := 8) rfl rfl rfl rfl ?_
  refine ar_getf (v := .ref 114) (q := 11) rfl rfl mk_113 rfl rfl ?_
  refine ar_aload_n (j := 0) (q := 12) rfl rfl rfl rfl ?_
  refine ar_aload_n (j := 0) (q := 13) rfl rfl rfl rfl ?_
  refine ar_getf (v := .ref 146) (q := 16) rfl rfl mk_113 rfl rfl ?_
  refine ar_iload_n (j := 2) (q := 17) rfl rfl rfl rfl ?_
  obtain ⟨hx_1, h⟩ := h
  refine ar_iald (v := I 146 p) (q := 18) rfl mk_146 (am_inE rfl hx_1 (by decide)) (am_clE (n := 12) rfl hx_1 (by decide)) rfl ?_
  refine ar_invv (as := [.int (I 146 p)]) (rest := [.ref 114, .int ((nI k) * 5), .ref 121]) (b2 := (0, 0)) (b3 := (0, 0)) (q := 21) rfl rfl rfl rfl mk_113 rfl rfl rfl rfl rfl ?_
  obtain ⟨j_2, hi_3, h⟩ := h
  obtain ⟨hp_4, h⟩ := h
  obtain ⟨hp_5, h⟩ := h
  refine ok_M_townOf (by omega) hi_3 hp_4 hp_5 ?_
  show am_Run am_X0 (am_meth d) 222 R 21 [some (.ref 113), some (.int (nI k)), some (.int (nI p))] [.int (I 122 (am_n I 125 j_2)), .ref 114, .int ((nI k) * 5), .ref 121] (am_mk I L, 0, 0)
  obtain ⟨j_6, hx_7, hi_8, h⟩ := h
  refine ar_iald (v := I 114 j_6) (q := 22) rfl mk_114 (am_inE hi_8 hx_7 (by decide)) (am_clE (n := 10) hi_8 hx_7 (by decide)) rfl ?_
  refine ar_ib (i := .iadd) (z := ((nI k) * 5) + (I 114 j_6)) (q := 23) rfl rfl rfl rfl rfl ?_
  obtain ⟨j_9, hx_10, hi_11, h⟩ := h
  refine ar_iald (v := I 121 j_9) (q := 24) rfl mk_121 (am_inE hi_11 hx_10 (by decide)) (am_clE (n := 100) hi_11 hx_10 (by decide)) rfl ?_
  exact ar_iret rfl rfl h
theorem r_M_rather_0 {d : Nat} {R : am_R} {I : Nat → Nat → Int32} {L : Nat → Nat → Int64} {k : Nat} {p : Nat} {q : Int32} (h : ((q < 0 → (R (some (.int 1)) (am_mk I L, 0, 0))) ∧ (¬ q < 0 → (am_meth d 222 [.ref 113, .int (nI k), .int (nI p)] (am_mk I L, 0, 0) (am_ri (fun z_2 I_3 L_4 => am_meth d 222 [.ref 113, .int (nI k), .int q] (am_mk I_3 L_4, 0, 0) (am_ri (fun z_5 I_6 L_7 => ((z_2 ≤ z_5 → (((z_2 = z_5 → ((((nI p) < q → (R (some (.int 1)) (am_mk I_6 L_7, 0, 0))) ∧ (¬ (nI p) < q → (R (some (.int 0)) (am_mk I_6 L_7, 0, 0)))))) ∧ (¬ z_2 = z_5 → (R (some (.int 0)) (am_mk I_6 L_7, 0, 0)))))) ∧ (¬ z_2 ≤ z_5 → (R (some (.int 1)) (am_mk I_6 L_7, 0, 0)))))))))))) : am_Run am_X0 (am_meth d) 221 R 0 [some (.ref 113), some (.int (nI k)), some (.int (nI p)), some (.int q), none, none] [] (am_mk I L, 0, 0) := by
  refine ar_iload_n (j := 3) (q := 1) rfl rfl rfl rfl ?_
  obtain ⟨hA, hB⟩ := h
  refine ar_b0 am_d_ge (t := 6) (q := 4) rfl rfl rfl (fun c_1 => ?_) (fun c_1 => ?_)
  · have h := hB c_1
    clear hA hB
    refine ar_aload_n (j := 0) (q := 7) rfl rfl rfl rfl ?_
    refine ar_iload_n (j := 1) (q := 8) rfl rfl rfl rfl ?_
    refine ar_iload_n (j := 2) (q := 9) rfl rfl rfl rfl ?_
    refine ar_invv (as := [.int (nI k), .int (nI p)]) (rest := []) (b2 := (0, 0)) (b3 := (0, 0)) (q := 12) rfl rfl rfl rfl mk_113 rfl rfl rfl rfl rfl ?_
    refine am_meth_mono d _ _ _ _ _ (fun v9 m9 h9 => ?_) h
    obtain ⟨z_2, I_3, L_4, rfl, rfl, h⟩ := h9
    show am_Run am_X0 (am_meth d) 221 R 12 [some (.ref 113), some (.int (nI k)), some (.int (nI p)), some (.int q), none, none] [.int z_2] (am_mk I_3 L_4, 0, 0)
    refine ar_istore (ls' := [some (.ref 113), some (.int (nI k)), some (.int (nI p)), some (.int q), some (.int z_2), none]) (q := 14) rfl rfl rfl rfl ?_
    refine ar_aload_n (j := 0) (q := 15) rfl rfl rfl rfl ?_
    refine ar_iload_n (j := 1) (q := 16) rfl rfl rfl rfl ?_
    refine ar_iload_n (j := 3) (q := 17) rfl rfl rfl rfl ?_
    refine ar_invv (as := [.int (nI k), .int q]) (rest := []) (b2 := (0, 0)) (b3 := (0, 0)) (q := 20) rfl rfl rfl rfl mk_113 rfl rfl rfl rfl rfl ?_
    refine am_meth_mono d _ _ _ _ _ (fun v9 m9 h9 => ?_) h
    obtain ⟨z_5, I_6, L_7, rfl, rfl, h⟩ := h9
    show am_Run am_X0 (am_meth d) 221 R 20 [some (.ref 113), some (.int (nI k)), some (.int (nI p)), some (.int q), some (.int z_2), none] [.int z_5] (am_mk I_6 L_7, 0, 0)
    refine ar_istore (ls' := [some (.ref 113), some (.int (nI k)), some (.int (nI p)), some (.int q), some (.int z_2), some (.int z_5)]) (q := 22) rfl rfl rfl rfl ?_
    refine ar_iload (q := 24) rfl rfl rfl ?_
    refine ar_iload (q := 26) rfl rfl rfl ?_
    obtain ⟨hA, hB⟩ := h
    refine ar_br am_d_gt (t := 41) (q := 29) rfl rfl rfl (fun c_8 => ?_) (fun c_8 => ?_)
    · have h := hB c_8
      clear hA hB
      refine ar_iconst (v := 1) (q := 42) rfl rfl rfl ?_
      refine ar_goto (t := 46) rfl rfl ?_
      exact ar_zret rfl rfl (Or.inr rfl) h
    · have c_8 := Classical.not_not.mp c_8
      have h := hA c_8
      clear hA hB
      refine ar_iload (q := 31) rfl rfl rfl ?_
      refine ar_iload (q := 33) rfl rfl rfl ?_
      obtain ⟨hA, hB⟩ := h
      refine ar_br am_c_ne (t := 45) (q := 36) rfl rfl rfl (fun c_9 => ?_) (fun c_9 => ?_)
      · have h := hB c_9
        clear hA hB
        refine ar_iconst (v := 0) (q := 46) rfl rfl rfl ?_
        exact ar_zret rfl rfl (Or.inl rfl) h
      · have c_9 := Classical.not_not.mp c_9
        have h := hA c_9
        clear hA hB
        refine ar_iload_n (j := 2) (q := 37) rfl rfl rfl rfl ?_
        refine ar_iload_n (j := 3) (q := 38) rfl rfl rfl rfl ?_
        obtain ⟨hA, hB⟩ := h
        refine ar_br am_d_ge (t := 45) (q := 41) rfl rfl rfl (fun c_10 => ?_) (fun c_10 => ?_)
        · have h := hB c_10
          clear hA hB
          refine ar_iconst (v := 0) (q := 46) rfl rfl rfl ?_
          exact ar_zret rfl rfl (Or.inl rfl) h
        · have c_10 := Classical.not_not.mp c_10
          have h := hA c_10
          clear hA hB
          refine ar_iconst (v := 1) (q := 42) rfl rfl rfl ?_
          refine ar_goto (t := 46) rfl rfl ?_
          exact ar_zret rfl rfl (Or.inr rfl) h
  · have c_1 := Classical.not_not.mp c_1
    have h := hA c_1
    clear hA hB
    refine ar_iconst (v := 1) (q := 5) rfl rfl rfl ?_
    exact ar_zret rfl rfl (Or.inr rfl) h
theorem r_M_prepare_0 {d : Nat} {R : am_R} {I : Nat → Nat → Int32} {L : Nat → Nat → Int64}  (h : am_Run am_X0 (am_meth d) 217 R 2 [some (.ref 113), some (.int 0), none] [] (am_mk I L, 0, 0)) : am_Run am_X0 (am_meth d) 217 R 0 [some (.ref 113), none, none] [] (am_mk I L, 0, 0) := by
  refine ar_iconst (v := 0) (q := 1) rfl rfl rfl ?_
  refine ar_istore_n (j := 1) (ls' := [some (.ref 113), some (.int 0), none]) (q := 2) rfl rfl rfl rfl rfl ?_
  exact am_Run.weak (ls' := _) (by exact ⟨rfl, ⟨rfl, trivial⟩⟩) h
theorem r_M_prepare_2 {d : Nat} {R : am_R} {I : Nat → Nat → Int32} {L : Nat → Nat → Int64} {k : Nat} (h : (((nI k) < (I 113 4) → (k < 20 ∧ (∀ I_3 : Nat → Nat → Int32, I_3 = va_up I 153 (upd (I 153) k 0) → (am_Run am_X0 (am_meth d) 217 R 19 [some (.ref 113), some (.int (nI k)), some (.int 0)] [] (am_mk I_3 L, 0, 0))))) ∧ (¬ (nI k) < (I 113 4) → (R none (am_mk I L, 0, 0))))) : am_Run am_X0 (am_meth d) 217 R 2 [some (.ref 113), some (.int (nI k)), none] [] (am_mk I L, 0, 0) := by
  refine ar_iload_n (j := 1) (q := 3) rfl rfl rfl rfl ?_
  refine ar_aload_n (j := 0) (q := 4) rfl rfl rfl rfl ?_
  refine ar_getf (v := .int (I 113 4)) (q := 7) rfl rfl mk_113 rfl rfl ?_
  obtain ⟨hA, hB⟩ := h
  refine ar_br am_d_ge (t := 87) (q := 10) rfl rfl rfl (fun c_1 => ?_) (fun c_1 => ?_)
  · have h := hB c_1
    clear hA hB
    exact ar_vret rfl rfl h
  · have c_1 := Classical.not_not.mp c_1
    have h := hA c_1
    clear hA hB
    refine ar_aload_n (j := 0) (q := 11) rfl rfl rfl rfl ?_
    refine ar_getf (v := .ref 153) (q := 14) rfl rfl mk_113 rfl rfl ?_
    refine ar_iload_n (j := 1) (q := 15) rfl rfl rfl rfl ?_
    refine ar_iconst (v := 0) (q := 16) rfl rfl rfl ?_
    obtain ⟨hx_2, h⟩ := h
    obtain ⟨I_3, hI_4⟩ : ∃ z : Nat → Nat → Int32, z = va_up I 153 (upd (I 153) k 0) := ⟨_, rfl⟩
    have h := h I_3 hI_4
    refine ar_iast (hp2 := am_mk I_3 L) (q := 17) rfl mk_153 (am_inE rfl hx_2 (by decide)) (by rw [am_clT (n := 20) rfl hx_2 (by decide), hI_4]; exact mk_s153) rfl ?_
    refine ar_iconst (v := 0) (q := 18) rfl rfl rfl ?_
    refine ar_istore_n (j := 2) (ls' := [some (.ref 113), some (.int (nI k)), some (.int 0)]) (q := 19) rfl rfl rfl rfl rfl ?_
    exact am_Run.weak (ls' := _) (by exact ⟨rfl, ⟨rfl, ⟨rfl, trivial⟩⟩⟩) h
theorem r_M_prepare_19 {d : Nat} {R : am_R} {I : Nat → Nat → Int32} {L : Nat → Nat → Int64} {k : Nat} {p : Nat} (h : (((nI p) < (I 113 39) → (p < 12 ∧ (am_meth d 165 [.ref 113, .int (nI k), .int (I 146 p)] (am_mk I L, 0, 0) (am_ri (fun z_3 I_4 L_5 => ((z_3 = 0 → (k < 20 ∧ (∀ I_8 : Nat → Nat → Int32, I_8 = va_up I_4 153 (upd (I_4 153) k ((I_4 153 k) ||| (1 <<< ((nI p) &&& 31)))) → (am_meth d 218 [.ref 113, .int (nI k), .int (I_8 146 p)] (am_mk I_8 L_5, 0, 0) (am_ri (fun z_10 I_11 L_12 => ∃ j_13 : Nat, j_13 < 120 ∧ ((nI k) * 6) + (nI p) = nI j_13 ∧ (∀ I_16 : Nat → Nat → Int32, I_16 = va_up I_11 154 (upd (I_11 154) j_13 z_10) → (am_Run am_X0 (am_meth d) 217 R 19 [some (.ref 113), some (.int (nI k)), some (.int (nI (p + 1)))] [] (am_mk I_16 L_12, 0, 0))))))))) ∧ (¬ z_3 = 0 → (am_meth d 218 [.ref 113, .int (nI k), .int (I_4 146 p)] (am_mk I_4 L_5, 0, 0) (am_ri (fun z_18 I_19 L_20 => ∃ j_21 : Nat, j_21 < 120 ∧ ((nI k) * 6) + (nI p) = nI j_21 ∧ (∀ I_24 : Nat → Nat → Int32, I_24 = va_up I_19 154 (upd (I_19 154) j_21 z_18) → (am_Run am_X0 (am_meth d) 217 R 19 [some (.ref 113), some (.int (nI k)), some (.int (nI (p + 1)))] [] (am_mk I_24 L_20, 0, 0))))))))))))) ∧ (¬ (nI p) < (I 113 39) → (am_Run am_X0 (am_meth d) 217 R 2 [some (.ref 113), some (.int (nI (k + 1))), none] [] (am_mk I L, 0, 0))))) : am_Run am_X0 (am_meth d) 217 R 19 [some (.ref 113), some (.int (nI k)), some (.int (nI p))] [] (am_mk I L, 0, 0) := by
  refine ar_iload_n (j := 2) (q := 20) rfl rfl rfl rfl ?_
  refine ar_aload_n (j := 0) (q := 21) rfl rfl rfl rfl ?_
  refine ar_getf (v := .int (I 113 39)) (q := 24) rfl rfl mk_113 rfl rfl ?_
  obtain ⟨hA, hB⟩ := h
  refine ar_br am_d_ge (t := 81) (q := 27) rfl rfl rfl (fun c_1 => ?_) (fun c_1 => ?_)
  · have h := hB c_1
    clear hA hB
    refine ar_iinc (v := nI (k + 1)) (ls' := [some (.ref 113), some (.int (nI (k + 1))), some (.int (nI p))]) (q := 84) rfl rfl rfl (nI_1 _) rfl rfl ?_
    refine ar_goto (t := 2) rfl rfl ?_
    exact am_Run.weak (ls' := _) (by exact ⟨rfl, ⟨rfl, trivial⟩⟩) h
  · have c_1 := Classical.not_not.mp c_1
    have h := hA c_1
    clear hA hB
    refine ar_aload_n (j := 0) (q := 28) rfl rfl rfl rfl ?_
    refine ar_iload_n (j := 1) (q := 29) rfl rfl rfl rfl ?_
    refine ar_aload_n (j := 0) (q := 30) rfl rfl rfl rfl ?_
    refine ar_getf (v := .ref 146) (q := 33) rfl rfl mk_113 rfl rfl ?_
    refine ar_iload_n (j := 2) (q := 34) rfl rfl rfl rfl ?_
    obtain ⟨hx_2, h⟩ := h
    refine ar_iald (v := I 146 p) (q := 35) rfl mk_146 (am_inE rfl hx_2 (by decide)) (am_clE (n := 12) rfl hx_2 (by decide)) rfl ?_
    refine ar_invv (as := [.int (nI k), .int (I 146 p)]) (rest := []) (b2 := (0, 0)) (b3 := (0, 0)) (q := 38) rfl rfl rfl rfl mk_113 rfl rfl rfl rfl rfl ?_
    refine am_meth_mono d _ _ _ _ _ (fun v9 m9 h9 => ?_) h
    obtain ⟨z_3, I_4, L_5, rfl, rfl, h⟩ := h9
    show am_Run am_X0 (am_meth d) 217 R 38 [some (.ref 113), some (.int (nI k)), some (.int (nI p))] [.int z_3] (am_mk I_4 L_5, 0, 0)
    obtain ⟨hA, hB⟩ := h
    refine ar_b0 am_c_ne (t := 53) (q := 41) rfl rfl rfl (fun c_6 => ?_) (fun c_6 => ?_)
    · have h := hB c_6
      clear hA hB
      refine ar_aload_n (j := 0) (q := 54) rfl rfl rfl rfl ?_
      refine ar_getf (v := .ref 154) (q := 57) rfl rfl mk_113 rfl rfl ?_
      refine ar_iload_n (j := 1) (q := 58) rfl rfl rfl rfl ?_
      refine ar_bipush (v := 6) (q := 60) rfl rfl rfl ?_
      refine ar_ib (i := .imul) (z := (nI k) * 6) (q := 61) rfl rfl rfl rfl rfl ?_
      refine ar_iload_n (j := 2) (q := 62) rfl rfl rfl rfl ?_
      refine ar_ib (i := .iadd) (z := ((nI k) * 6) + (nI p)) (q := 63) rfl rfl rfl rfl rfl ?_
      refine ar_aload_n (j := 0) (q := 64) rfl rfl rfl rfl ?_
      refine ar_iload_n (j := 1) (q := 65) rfl rfl rfl rfl ?_
      refine ar_aload_n (j := 0) (q := 66) rfl rfl rfl rfl ?_
      refine ar_getf (v := .ref 146) (q := 69) rfl rfl mk_113 rfl rfl ?_
      refine ar_iload_n (j := 2) (q := 70) rfl rfl rfl rfl ?_
      refine ar_iald (v := I_4 146 p) (q := 71) rfl mk_146 (am_inE rfl hx_2 (by decide)) (am_clE (n := 12) rfl hx_2 (by decide)) rfl ?_
      refine ar_invv (as := [.int (nI k), .int (I_4 146 p)]) (rest := [.int (((nI k) * 6) + (nI p)), .ref 154]) (b2 := (0, 0)) (b3 := (0, 0)) (q := 74) rfl rfl rfl rfl mk_113 rfl rfl rfl rfl rfl ?_
      refine am_meth_mono d _ _ _ _ _ (fun v9 m9 h9 => ?_) h
      obtain ⟨z_18, I_19, L_20, rfl, rfl, h⟩ := h9
      show am_Run am_X0 (am_meth d) 217 R 74 [some (.ref 113), some (.int (nI k)), some (.int (nI p))] [.int z_18, .int (((nI k) * 6) + (nI p)), .ref 154] (am_mk I_19 L_20, 0, 0)
      obtain ⟨j_21, hx_22, hi_23, h⟩ := h
      obtain ⟨I_24, hI_25⟩ : ∃ z : Nat → Nat → Int32, z = va_up I_19 154 (upd (I_19 154) j_21 z_18) := ⟨_, rfl⟩
      have h := h I_24 hI_25
      refine ar_iast (hp2 := am_mk I_24 L_20) (q := 75) rfl mk_154 (am_inE hi_23 hx_22 (by decide)) (by rw [am_clT (n := 120) hi_23 hx_22 (by decide), hI_25]; exact mk_s154) rfl ?_
      refine ar_iinc (v := nI (p + 1)) (ls' := [some (.ref 113), some (.int (nI k)), some (.int (nI (p + 1)))]) (q := 78) rfl rfl rfl (nI_1 _) rfl rfl ?_
      refine ar_goto (t := 19) rfl rfl ?_
      exact am_Run.weak (ls' := _) (by exact ⟨rfl, ⟨rfl, ⟨rfl, trivial⟩⟩⟩) h
    · have c_6 := Classical.not_not.mp c_6
      have h := hA c_6
      clear hA hB
      refine ar_aload_n (j := 0) (q := 42) rfl rfl rfl rfl ?_
      refine ar_getf (v := .ref 153) (q := 45) rfl rfl mk_113 rfl rfl ?_
      refine ar_iload_n (j := 1) (q := 46) rfl rfl rfl rfl ?_
      refine ar_st (i := .dup2) (n := 1) (st' := [.int (nI k), .ref 153, .int (nI k), .ref 153]) (q := 47) rfl rfl rfl rfl ?_
      obtain ⟨hx_7, h⟩ := h
      refine ar_iald (v := I_4 153 k) (q := 48) rfl mk_153 (am_inE rfl hx_7 (by decide)) (am_clE (n := 20) rfl hx_7 (by decide)) rfl ?_
      refine ar_iconst (v := 1) (q := 49) rfl rfl rfl ?_
      refine ar_iload_n (j := 2) (q := 50) rfl rfl rfl rfl ?_
      refine ar_ib (i := .ishl) (z := 1 <<< ((nI p) &&& 31)) (q := 51) rfl rfl rfl rfl rfl ?_
      refine ar_ib (i := .ior) (z := (I_4 153 k) ||| (1 <<< ((nI p) &&& 31))) (q := 52) rfl rfl rfl rfl rfl ?_
      obtain ⟨I_8, hI_9⟩ : ∃ z : Nat → Nat → Int32, z = va_up I_4 153 (upd (I_4 153) k ((I_4 153 k) ||| (1 <<< ((nI p) &&& 31)))) := ⟨_, rfl⟩
      have h := h I_8 hI_9
      refine ar_iast (hp2 := am_mk I_8 L_5) (q := 53) rfl mk_153 (am_inE rfl hx_7 (by decide)) (by rw [am_clT (n := 20) rfl hx_7 (by decide), hI_9]; exact mk_s153) rfl ?_
      refine ar_aload_n (j := 0) (q := 54) rfl rfl rfl rfl ?_
      refine ar_getf (v := .ref 154) (q := 57) rfl rfl mk_113 rfl rfl ?_
      refine ar_iload_n (j := 1) (q := 58) rfl rfl rfl rfl ?_
      refine ar_bipush (v := 6) (q := 60) rfl rfl rfl ?_
      refine ar_ib (i := .imul) (z := (nI k) * 6) (q := 61) rfl rfl rfl rfl rfl ?_
      refine ar_iload_n (j := 2) (q := 62) rfl rfl rfl rfl ?_
      refine ar_ib (i := .iadd) (z := ((nI k) * 6) + (nI p)) (q := 63) rfl rfl rfl rfl rfl ?_
      refine ar_aload_n (j := 0) (q := 64) rfl rfl rfl rfl ?_
      refine ar_iload_n (j := 1) (q := 65) rfl rfl rfl rfl ?_
      refine ar_aload_n (j := 0) (q := 66) rfl rfl rfl rfl ?_
      refine ar_getf (v := .ref 146) (q := 69) rfl rfl mk_113 rfl rfl ?_
      refine ar_iload_n (j := 2) (q := 70) rfl rfl rfl rfl ?_
      refine ar_iald (v := I_8 146 p) (q := 71) rfl mk_146 (am_inE rfl hx_2 (by decide)) (am_clE (n := 12) rfl hx_2 (by decide)) rfl ?_
      refine ar_invv (as := [.int (nI k), .int (I_8 146 p)]) (rest := [.int (((nI k) * 6) + (nI p)), .ref 154]) (b2 := (0, 0)) (b3 := (0, 0)) (q := 74) rfl rfl rfl rfl mk_113 rfl rfl rfl rfl rfl ?_
      refine am_meth_mono d _ _ _ _ _ (fun v9 m9 h9 => ?_) h
      obtain ⟨z_10, I_11, L_12, rfl, rfl, h⟩ := h9
      show am_Run am_X0 (am_meth d) 217 R 74 [some (.ref 113), some (.int (nI k)), some (.int (nI p))] [.int z_10, .int (((nI k) * 6) + (nI p)), .ref 154] (am_mk I_11 L_12, 0, 0)
      obtain ⟨j_13, hx_14, hi_15, h⟩ := h
      obtain ⟨I_16, hI_17⟩ : ∃ z : Nat → Nat → Int32, z = va_up I_11 154 (upd (I_11 154) j_13 z_10) := ⟨_, rfl⟩
      have h := h I_16 hI_17
      refine ar_iast (hp2 := am_mk I_16 L_12) (q := 75) rfl mk_154 (am_inE hi_15 hx_14 (by decide)) (by rw [am_clT (n := 120) hi_15 hx_14 (by decide), hI_17]; exact mk_s154) rfl ?_
      refine ar_iinc (v := nI (p + 1)) (ls' := [some (.ref 113), some (.int (nI k)), some (.int (nI (p + 1)))]) (q := 78) rfl rfl rfl (nI_1 _) rfl rfl ?_
      refine ar_goto (t := 19) rfl rfl ?_
      exact am_Run.weak (ls' := _) (by exact ⟨rfl, ⟨rfl, ⟨rfl, trivial⟩⟩⟩) h
theorem r_M_nextPlace_0 {d : Nat} {R : am_R} {I : Nat → Nat → Int32} {L : Nat → Nat → Int64} {k : Nat} (h : am_Run am_X0 (am_meth d) 220 R 4 [some (.ref 113), some (.int (nI k)), some (.int (-1 : Int32)), some (.int 0)] [] (am_mk I L, 0, 0)) : am_Run am_X0 (am_meth d) 220 R 0 [some (.ref 113), some (.int (nI k)), none, none] [] (am_mk I L, 0, 0) := by
  refine ar_iconst (v := (-1 : Int32)) (q := 1) rfl rfl rfl ?_
  refine ar_istore_n (j := 2) (ls' := [some (.ref 113), some (.int (nI k)), some (.int (-1 : Int32)), none]) (q := 2) rfl rfl rfl rfl rfl ?_
  refine ar_iconst (v := 0) (q := 3) rfl rfl rfl ?_
  refine ar_istore_n (j := 3) (ls' := [some (.ref 113), some (.int (nI k)), some (.int (-1 : Int32)), some (.int 0)]) (q := 4) rfl rfl rfl rfl rfl ?_
  exact am_Run.weak (ls' := _) (by exact ⟨rfl, ⟨rfl, ⟨rfl, ⟨rfl, trivial⟩⟩⟩⟩) h
theorem r_M_nextPlace_4 {d : Nat} {R : am_R} {I : Nat → Nat → Int32} {L : Nat → Nat → Int64} {k : Nat} {best : Int32} {p : Nat} (h : (((nI p) < (I 113 39) → (k < 20 ∧ ((((((I 150 k) >>> ((nI p) &&& 31)) &&& 1) = 1 → (am_Run am_X0 (am_meth d) 220 R 4 [some (.ref 113), some (.int (nI k)), some (.int best), some (.int (nI (p + 1)))] [] (am_mk I L, 0, 0))) ∧ (¬ (((I 150 k) >>> ((nI p) &&& 31)) &&& 1) = 1 → ((((((I 153 k) >>> ((nI p) &&& 31)) &&& 1) = 0 → (am_Run am_X0 (am_meth d) 220 R 4 [some (.ref 113), some (.int (nI k)), some (.int best), some (.int (nI (p + 1)))] [] (am_mk I L, 0, 0))) ∧ (¬ (((I 153 k) >>> ((nI p) &&& 31)) &&& 1) = 0 → (am_meth d 221 [.ref 113, .int (nI k), .int (nI p), .int best] (am_mk I L, 0, 0) (am_ri (fun z_5 I_6 L_7 => ((z_5 = 0 → (am_Run am_X0 (am_meth d) 220 R 4 [some (.ref 113), some (.int (nI k)), some (.int best), some (.int (nI (p + 1)))] [] (am_mk I_6 L_7, 0, 0))) ∧ (¬ z_5 = 0 → (am_Run am_X0 (am_meth d) 220 R 4 [some (.ref 113), some (.int (nI k)), some (.int (nI p)), some (.int (nI (p + 1)))] [] (am_mk I_6 L_7, 0, 0))))))))))))))) ∧ (¬ (nI p) < (I 113 39) → (R (some (.int best)) (am_mk I L, 0, 0))))) : am_Run am_X0 (am_meth d) 220 R 4 [some (.ref 113), some (.int (nI k)), some (.int best), some (.int (nI p))] [] (am_mk I L, 0, 0) := by
  refine ar_iload_n (j := 3) (q := 5) rfl rfl rfl rfl ?_
  refine ar_aload_n (j := 0) (q := 6) rfl rfl rfl rfl ?_
  refine ar_getf (v := .int (I 113 39)) (q := 9) rfl rfl mk_113 rfl rfl ?_
  obtain ⟨hA, hB⟩ := h
  refine ar_br am_d_ge (t := 60) (q := 12) rfl rfl rfl (fun c_1 => ?_) (fun c_1 => ?_)
  · have h := hB c_1
    clear hA hB
    refine ar_iload_n (j := 2) (q := 61) rfl rfl rfl rfl ?_
    exact ar_iret rfl rfl h
  · have c_1 := Classical.not_not.mp c_1
    have h := hA c_1
    clear hA hB
    refine ar_aload_n (j := 0) (q := 13) rfl rfl rfl rfl ?_
    refine ar_getf (v := .ref 150) (q := 16) rfl rfl mk_113 rfl rfl ?_
    refine ar_iload_n (j := 1) (q := 17) rfl rfl rfl rfl ?_
    obtain ⟨hx_2, h⟩ := h
    refine ar_iald (v := I 150 k) (q := 18) rfl mk_150 (am_inE rfl hx_2 (by decide)) (am_clE (n := 20) rfl hx_2 (by decide)) rfl ?_
    refine ar_iload_n (j := 3) (q := 19) rfl rfl rfl rfl ?_
    refine ar_ib (i := .ishr) (z := (I 150 k) >>> ((nI p) &&& 31)) (q := 20) rfl rfl rfl rfl rfl ?_
    refine ar_iconst (v := 1) (q := 21) rfl rfl rfl ?_
    refine ar_ib (i := .iand) (z := ((I 150 k) >>> ((nI p) &&& 31)) &&& 1) (q := 22) rfl rfl rfl rfl rfl ?_
    refine ar_iconst (v := 1) (q := 23) rfl rfl rfl ?_
    obtain ⟨hA, hB⟩ := h
    refine ar_br am_c_eq (t := 54) (q := 26) rfl rfl rfl (fun c_3 => ?_) (fun c_3 => ?_)
    · have h := hA c_3
      clear hA hB
      refine ar_iinc (v := nI (p + 1)) (ls' := [some (.ref 113), some (.int (nI k)), some (.int best), some (.int (nI (p + 1)))]) (q := 57) rfl rfl rfl (nI_1 _) rfl rfl ?_
      refine ar_goto (t := 4) rfl rfl ?_
      exact am_Run.weak (ls' := _) (by exact ⟨rfl, ⟨rfl, ⟨rfl, ⟨rfl, trivial⟩⟩⟩⟩) h
    · have h := hB c_3
      clear hA hB
      refine ar_aload_n (j := 0) (q := 27) rfl rfl rfl rfl ?_
      refine ar_getf (v := .ref 153) (q := 30) rfl rfl mk_113 rfl rfl ?_
      refine ar_iload_n (j := 1) (q := 31) rfl rfl rfl rfl ?_
      refine ar_iald (v := I 153 k) (q := 32) rfl mk_153 (am_inE rfl hx_2 (by decide)) (am_clE (n := 20) rfl hx_2 (by decide)) rfl ?_
      refine ar_iload_n (j := 3) (q := 33) rfl rfl rfl rfl ?_
      refine ar_ib (i := .ishr) (z := (I 153 k) >>> ((nI p) &&& 31)) (q := 34) rfl rfl rfl rfl rfl ?_
      refine ar_iconst (v := 1) (q := 35) rfl rfl rfl ?_
      refine ar_ib (i := .iand) (z := ((I 153 k) >>> ((nI p) &&& 31)) &&& 1) (q := 36) rfl rfl rfl rfl rfl ?_
      obtain ⟨hA, hB⟩ := h
      refine ar_b0 am_c_ne (t := 42) (q := 39) rfl rfl rfl (fun c_4 => ?_) (fun c_4 => ?_)
      · have h := hB c_4
        clear hA hB
        refine ar_aload_n (j := 0) (q := 43) rfl rfl rfl rfl ?_
        refine ar_iload_n (j := 1) (q := 44) rfl rfl rfl rfl ?_
        refine ar_iload_n (j := 3) (q := 45) rfl rfl rfl rfl ?_
        refine ar_iload_n (j := 2) (q := 46) rfl rfl rfl rfl ?_
        refine ar_invv (as := [.int (nI k), .int (nI p), .int best]) (rest := []) (b2 := (0, 0)) (b3 := (0, 0)) (q := 49) rfl rfl rfl rfl mk_113 rfl rfl rfl rfl rfl ?_
        refine am_meth_mono d _ _ _ _ _ (fun v9 m9 h9 => ?_) h
        obtain ⟨z_5, I_6, L_7, rfl, rfl, h⟩ := h9
        show am_Run am_X0 (am_meth d) 220 R 49 [some (.ref 113), some (.int (nI k)), some (.int best), some (.int (nI p))] [.int z_5] (am_mk I_6 L_7, 0, 0)
        obtain ⟨hA, hB⟩ := h
        refine ar_b0 am_c_eq (t := 54) (q := 52) rfl rfl rfl (fun c_8 => ?_) (fun c_8 => ?_)
        · have h := hA c_8
          clear hA hB
          refine ar_iinc (v := nI (p + 1)) (ls' := [some (.ref 113), some (.int (nI k)), some (.int best), some (.int (nI (p + 1)))]) (q := 57) rfl rfl rfl (nI_1 _) rfl rfl ?_
          refine ar_goto (t := 4) rfl rfl ?_
          exact am_Run.weak (ls' := _) (by exact ⟨rfl, ⟨rfl, ⟨rfl, ⟨rfl, trivial⟩⟩⟩⟩) h
        · have h := hB c_8
          clear hA hB
          refine ar_iload_n (j := 3) (q := 53) rfl rfl rfl rfl ?_
          refine ar_istore_n (j := 2) (ls' := [some (.ref 113), some (.int (nI k)), some (.int (nI p)), some (.int (nI p))]) (q := 54) rfl rfl rfl rfl rfl ?_
          refine ar_iinc (v := nI (p + 1)) (ls' := [some (.ref 113), some (.int (nI k)), some (.int (nI p)), some (.int (nI (p + 1)))]) (q := 57) rfl rfl rfl (nI_1 _) rfl rfl ?_
          refine ar_goto (t := 4) rfl rfl ?_
          exact am_Run.weak (ls' := _) (by exact ⟨rfl, ⟨rfl, ⟨rfl, ⟨rfl, trivial⟩⟩⟩⟩) h
      · have c_4 := Classical.not_not.mp c_4
        have h := hA c_4
        clear hA hB
        refine ar_goto (t := 54) rfl rfl ?_
        refine ar_iinc (v := nI (p + 1)) (ls' := [some (.ref 113), some (.int (nI k)), some (.int best), some (.int (nI (p + 1)))]) (q := 57) rfl rfl rfl (nI_1 _) rfl rfl ?_
        refine ar_goto (t := 4) rfl rfl ?_
        exact am_Run.weak (ls' := _) (by exact ⟨rfl, ⟨rfl, ⟨rfl, ⟨rfl, trivial⟩⟩⟩⟩) h
theorem r_M_holds_0 {d : Nat} {R : am_R} {I : Nat → Nat → Int32} {L : Nat → Nat → Int64} {k : Nat} (h : am_Run am_X0 (am_meth d) 219 R 2 [some (.ref 113), some (.int (nI k)), some (.int 0)] [] (am_mk I L, 0, 0)) : am_Run am_X0 (am_meth d) 219 R 0 [some (.ref 113), some (.int (nI k)), none] [] (am_mk I L, 0, 0) := by
  refine ar_iconst (v := 0) (q := 1) rfl rfl rfl ?_
  refine ar_istore_n (j := 2) (ls' := [some (.ref 113), some (.int (nI k)), some (.int 0)]) (q := 2) rfl rfl rfl rfl rfl ?_
  exact am_Run.weak (ls' := _) (by exact ⟨rfl, ⟨rfl, ⟨rfl, trivial⟩⟩⟩) h
theorem r_M_holds_2 {d : Nat} {R : am_R} {I : Nat → Nat → Int32} {L : Nat → Nat → Int64} {k : Nat} {p : Nat} (h : (((nI p) < (I 113 39) → (p < 6 ∧ ((((I 149 p) = (nI k) → (R (some (.int (nI p))) (am_mk I L, 0, 0))) ∧ (¬ (I 149 p) = (nI k) → (am_Run am_X0 (am_meth d) 219 R 2 [some (.ref 113), some (.int (nI k)), some (.int (nI (p + 1)))] [] (am_mk I L, 0, 0))))))) ∧ (¬ (nI p) < (I 113 39) → (R (some (.int (-1 : Int32))) (am_mk I L, 0, 0))))) : am_Run am_X0 (am_meth d) 219 R 2 [some (.ref 113), some (.int (nI k)), some (.int (nI p))] [] (am_mk I L, 0, 0) := by
  refine ar_iload_n (j := 2) (q := 3) rfl rfl rfl rfl ?_
  refine ar_aload_n (j := 0) (q := 4) rfl rfl rfl rfl ?_
  refine ar_getf (v := .int (I 113 39)) (q := 7) rfl rfl mk_113 rfl rfl ?_
  obtain ⟨hA, hB⟩ := h
  refine ar_br am_d_ge (t := 28) (q := 10) rfl rfl rfl (fun c_1 => ?_) (fun c_1 => ?_)
  · have h := hB c_1
    clear hA hB
    refine ar_iconst (v := (-1 : Int32)) (q := 29) rfl rfl rfl ?_
    exact ar_iret rfl rfl h
  · have c_1 := Classical.not_not.mp c_1
    have h := hA c_1
    clear hA hB
    refine ar_aload_n (j := 0) (q := 11) rfl rfl rfl rfl ?_
    refine ar_getf (v := .ref 149) (q := 14) rfl rfl mk_113 rfl rfl ?_
    refine ar_iload_n (j := 2) (q := 15) rfl rfl rfl rfl ?_
    obtain ⟨hx_2, h⟩ := h
    refine ar_iald (v := I 149 p) (q := 16) rfl mk_149 (am_inE rfl hx_2 (by decide)) (am_clE (n := 6) rfl hx_2 (by decide)) rfl ?_
    refine ar_iload_n (j := 1) (q := 17) rfl rfl rfl rfl ?_
    obtain ⟨hA, hB⟩ := h
    refine ar_br am_c_ne (t := 22) (q := 20) rfl rfl rfl (fun c_3 => ?_) (fun c_3 => ?_)
    · have h := hB c_3
      clear hA hB
      refine ar_iinc (v := nI (p + 1)) (ls' := [some (.ref 113), some (.int (nI k)), some (.int (nI (p + 1)))]) (q := 25) rfl rfl rfl (nI_1 _) rfl rfl ?_
      refine ar_goto (t := 2) rfl rfl ?_
      exact am_Run.weak (ls' := _) (by exact ⟨rfl, ⟨rfl, ⟨rfl, trivial⟩⟩⟩) h
    · have c_3 := Classical.not_not.mp c_3
      have h := hA c_3
      clear hA hB
      refine ar_iload_n (j := 2) (q := 21) rfl rfl rfl rfl ?_
      exact ar_iret rfl rfl h
theorem r_M_makePairs_0 {d : Nat} {R : am_R} {I : Nat → Nat → Int32} {L : Nat → Nat → Int64}  (h : am_meth d 217 [.ref 113] (am_mk I L, 0, 0) (am_rv (fun I_1 L_2 => am_Run am_X0 (am_meth d) 216 R 6 [some (.ref 113), some (.int 0), none, none] [] (am_mk I_1 L_2, 0, 0)))) : am_Run am_X0 (am_meth d) 216 R 0 [some (.ref 113), none, none, none] [] (am_mk I L, 0, 0) := by
  refine ar_aload_n (j := 0) (q := 1) rfl rfl rfl rfl ?_
  refine ar_invv (as := []) (rest := []) (b2 := (0, 0)) (b3 := (0, 0)) (q := 4) rfl rfl rfl rfl mk_113 rfl rfl rfl rfl rfl ?_
  refine am_meth_mono d _ _ _ _ _ (fun v9 m9 h9 => ?_) h
  obtain ⟨I_1, L_2, rfl, rfl, h⟩ := h9
  show am_Run am_X0 (am_meth d) 216 R 4 [some (.ref 113), none, none, none] [] (am_mk I_1 L_2, 0, 0)
  refine ar_iconst (v := 0) (q := 5) rfl rfl rfl ?_
  refine ar_istore_n (j := 1) (ls' := [some (.ref 113), some (.int 0), none, none]) (q := 6) rfl rfl rfl rfl rfl ?_
  exact am_Run.weak (ls' := _) (by exact ⟨rfl, ⟨rfl, trivial⟩⟩) h
theorem r_M_makePairs_6 {d : Nat} {R : am_R} {I : Nat → Nat → Int32} {L : Nat → Nat → Int64} {p : Nat} (h : (((nI p) < 6 → (p < 6 ∧ (∀ I_3 : Nat → Nat → Int32, I_3 = va_up I 149 (upd (I 149) p (-1 : Int32)) → (am_Run am_X0 (am_meth d) 216 R 6 [some (.ref 113), some (.int (nI (p + 1))), none, none] [] (am_mk I_3 L, 0, 0))))) ∧ (¬ (nI p) < 6 → (am_Run am_X0 (am_meth d) 216 R 27 [some (.ref 113), some (.int 0), none, none] [] (am_mk I L, 0, 0))))) : am_Run am_X0 (am_meth d) 216 R 6 [some (.ref 113), some (.int (nI p)), none, none] [] (am_mk I L, 0, 0) := by
  refine ar_iload_n (j := 1) (q := 7) rfl rfl rfl rfl ?_
  refine ar_bipush (v := 6) (q := 9) rfl rfl rfl ?_
  obtain ⟨hA, hB⟩ := h
  refine ar_br am_d_ge (t := 25) (q := 12) rfl rfl rfl (fun c_1 => ?_) (fun c_1 => ?_)
  · have h := hB c_1
    clear hA hB
    refine ar_iconst (v := 0) (q := 26) rfl rfl rfl ?_
    refine ar_istore_n (j := 1) (ls' := [some (.ref 113), some (.int 0), none, none]) (q := 27) rfl rfl rfl rfl rfl ?_
    exact am_Run.weak (ls' := _) (by exact ⟨rfl, ⟨rfl, trivial⟩⟩) h
  · have c_1 := Classical.not_not.mp c_1
    have h := hA c_1
    clear hA hB
    refine ar_aload_n (j := 0) (q := 13) rfl rfl rfl rfl ?_
    refine ar_getf (v := .ref 149) (q := 16) rfl rfl mk_113 rfl rfl ?_
    refine ar_iload_n (j := 1) (q := 17) rfl rfl rfl rfl ?_
    refine ar_iconst (v := (-1 : Int32)) (q := 18) rfl rfl rfl ?_
    obtain ⟨hx_2, h⟩ := h
    obtain ⟨I_3, hI_4⟩ : ∃ z : Nat → Nat → Int32, z = va_up I 149 (upd (I 149) p (-1 : Int32)) := ⟨_, rfl⟩
    have h := h I_3 hI_4
    refine ar_iast (hp2 := am_mk I_3 L) (q := 19) rfl mk_149 (am_inE rfl hx_2 (by decide)) (by rw [am_clT (n := 6) rfl hx_2 (by decide), hI_4]; exact mk_s149) rfl ?_
    refine ar_iinc (v := nI (p + 1)) (ls' := [some (.ref 113), some (.int (nI (p + 1))), none, none]) (q := 22) rfl rfl rfl (nI_1 _) rfl rfl ?_
    refine ar_goto (t := 6) rfl rfl ?_
    exact am_Run.weak (ls' := _) (by exact ⟨rfl, ⟨rfl, trivial⟩⟩) h
theorem r_M_makePairs_27 {d : Nat} {R : am_R} {I : Nat → Nat → Int32} {L : Nat → Nat → Int64} {k : Nat} (h : (((nI k) < (I 113 4) → (k < 20 ∧ (∀ I_3 : Nat → Nat → Int32, I_3 = va_up I 150 (upd (I 150) k 0) → (am_Run am_X0 (am_meth d) 216 R 27 [some (.ref 113), some (.int (nI (k + 1))), none, none] [] (am_mk I_3 L, 0, 0))))) ∧ (¬ (nI k) < (I 113 4) → (am_Run am_X0 (am_meth d) 216 R 50 [some (.ref 113), some (.int 1), none, none] [] (am_mk I L, 0, 0))))) : am_Run am_X0 (am_meth d) 216 R 27 [some (.ref 113), some (.int (nI k)), none, none] [] (am_mk I L, 0, 0) := by
  refine ar_iload_n (j := 1) (q := 28) rfl rfl rfl rfl ?_
  refine ar_aload_n (j := 0) (q := 29) rfl rfl rfl rfl ?_
  refine ar_getf (v := .int (I 113 4)) (q := 32) rfl rfl mk_113 rfl rfl ?_
  obtain ⟨hA, hB⟩ := h
  refine ar_br am_d_ge (t := 48) (q := 35) rfl rfl rfl (fun c_1 => ?_) (fun c_1 => ?_)
  · have h := hB c_1
    clear hA hB
    refine ar_iconst (v := 1) (q := 49) rfl rfl rfl ?_
    refine ar_istore_n (j := 1) (ls' := [some (.ref 113), some (.int 1), none, none]) (q := 50) rfl rfl rfl rfl rfl ?_
    exact am_Run.weak (ls' := _) (by exact ⟨rfl, ⟨rfl, trivial⟩⟩) h
  · have c_1 := Classical.not_not.mp c_1
    have h := hA c_1
    clear hA hB
    refine ar_aload_n (j := 0) (q := 36) rfl rfl rfl rfl ?_
    refine ar_getf (v := .ref 150) (q := 39) rfl rfl mk_113 rfl rfl ?_
    refine ar_iload_n (j := 1) (q := 40) rfl rfl rfl rfl ?_
    refine ar_iconst (v := 0) (q := 41) rfl rfl rfl ?_
    obtain ⟨hx_2, h⟩ := h
    obtain ⟨I_3, hI_4⟩ : ∃ z : Nat → Nat → Int32, z = va_up I 150 (upd (I 150) k 0) := ⟨_, rfl⟩
    have h := h I_3 hI_4
    refine ar_iast (hp2 := am_mk I_3 L) (q := 42) rfl mk_150 (am_inE rfl hx_2 (by decide)) (by rw [am_clT (n := 20) rfl hx_2 (by decide), hI_4]; exact mk_s150) rfl ?_
    refine ar_iinc (v := nI (k + 1)) (ls' := [some (.ref 113), some (.int (nI (k + 1))), none, none]) (q := 45) rfl rfl rfl (nI_1 _) rfl rfl ?_
    refine ar_goto (t := 27) rfl rfl ?_
    exact am_Run.weak (ls' := _) (by exact ⟨rfl, ⟨rfl, trivial⟩⟩) h
theorem r_M_makePairs_50 {d : Nat} {R : am_R} {I : Nat → Nat → Int32} {L : Nat → Nat → Int64} {m : Int32} (h : ((m = 0 → (R none (am_mk I L, 0, 0))) ∧ (¬ m = 0 → (am_Run am_X0 (am_meth d) 216 R 58 [some (.ref 113), some (.int 0), some (.int 0), none] [] (am_mk I L, 0, 0))))) : am_Run am_X0 (am_meth d) 216 R 50 [some (.ref 113), some (.int m), none, none] [] (am_mk I L, 0, 0) := by
  refine ar_iload_n (j := 1) (q := 51) rfl rfl rfl rfl ?_
  obtain ⟨hA, hB⟩ := h
  refine ar_b0 am_c_eq (t := 134) (q := 54) rfl rfl rfl (fun c_1 => ?_) (fun c_1 => ?_)
  · have h := hA c_1
    clear hA hB
    exact ar_vret rfl rfl h
  · have h := hB c_1
    clear hA hB
    refine ar_iconst (v := 0) (q := 55) rfl rfl rfl ?_
    refine ar_istore_n (j := 1) (ls' := [some (.ref 113), some (.int 0), none, none]) (q := 56) rfl rfl rfl rfl rfl ?_
    refine ar_iconst (v := 0) (q := 57) rfl rfl rfl ?_
    refine ar_istore_n (j := 2) (ls' := [some (.ref 113), some (.int 0), some (.int 0), none]) (q := 58) rfl rfl rfl rfl rfl ?_
    exact am_Run.weak (ls' := _) (by exact ⟨rfl, ⟨rfl, ⟨rfl, trivial⟩⟩⟩) h
theorem r_M_makePairs_58 {d : Nat} {R : am_R} {I : Nat → Nat → Int32} {L : Nat → Nat → Int64} {m : Int32} {k : Nat} (h : (((nI k) < (I 113 4) → (am_meth d 219 [.ref 113, .int (nI k)] (am_mk I L, 0, 0) (am_ri (fun z_2 I_3 L_4 => ((z_2 < 0 → (am_meth d 220 [.ref 113, .int (nI k)] (am_mk I_3 L_4, 0, 0) (am_ri (fun z_6 I_7 L_8 => ((z_6 < 0 → (am_Run am_X0 (am_meth d) 216 R 58 [some (.ref 113), some (.int m), some (.int (nI (k + 1))), none] [] (am_mk I_7 L_8, 0, 0))) ∧ (¬ z_6 < 0 → (k < 20 ∧ (∀ I_11 : Nat → Nat → Int32, I_11 = va_up I_7 150 (upd (I_7 150) k ((I_7 150 k) ||| (1 <<< (z_6 &&& 31)))) → (∃ j_13 : Nat, j_13 < 6 ∧ z_6 = nI j_13 ∧ (am_meth d 223 [.ref 113, .int (nI k), .int (I_11 149 j_13)] (am_mk I_11 L_8, 0, 0) (am_ri (fun z_16 I_17 L_18 => ((z_16 = 0 → (am_Run am_X0 (am_meth d) 216 R 58 [some (.ref 113), some (.int 1), some (.int (nI (k + 1))), none] [] (am_mk I_17 L_18, 0, 0))) ∧ (¬ z_16 = 0 → (∀ I_20 : Nat → Nat → Int32, I_20 = va_up I_17 149 (upd (I_17 149) j_13 (nI k)) → (am_Run am_X0 (am_meth d) 216 R 58 [some (.ref 113), some (.int 1), some (.int (nI (k + 1))), none] [] (am_mk I_20 L_18, 0, 0))))))))))))))))) ∧ (¬ z_2 < 0 → (am_Run am_X0 (am_meth d) 216 R 58 [some (.ref 113), some (.int m), some (.int (nI (k + 1))), none] [] (am_mk I_3 L_4, 0, 0)))))))) ∧ (¬ (nI k) < (I 113 4) → (am_Run am_X0 (am_meth d) 216 R 50 [some (.ref 113), some (.int m), none, none] [] (am_mk I L, 0, 0))))) : am_Run am_X0 (am_meth d) 216 R 58 [some (.ref 113), some (.int m), some (.int (nI k)), none] [] (am_mk I L, 0, 0) := by
  refine ar_iload_n (j := 2) (q := 59) rfl rfl rfl rfl ?_
  refine ar_aload_n (j := 0) (q := 60) rfl rfl rfl rfl ?_
  refine ar_getf (v := .int (I 113 4)) (q := 63) rfl rfl mk_113 rfl rfl ?_
  obtain ⟨hA, hB⟩ := h
  refine ar_br am_d_ge (t := 131) (q := 66) rfl rfl rfl (fun c_1 => ?_) (fun c_1 => ?_)
  · have h := hB c_1
    clear hA hB
    refine ar_goto (t := 50) rfl rfl ?_
    exact am_Run.weak (ls' := _) (by exact ⟨rfl, ⟨rfl, trivial⟩⟩) h
  · have c_1 := Classical.not_not.mp c_1
    have h := hA c_1
    clear hA hB
    refine ar_aload_n (j := 0) (q := 67) rfl rfl rfl rfl ?_
    refine ar_iload_n (j := 2) (q := 68) rfl rfl rfl rfl ?_
    refine ar_invv (as := [.int (nI k)]) (rest := []) (b2 := (0, 0)) (b3 := (0, 0)) (q := 71) rfl rfl rfl rfl mk_113 rfl rfl rfl rfl rfl ?_
    refine am_meth_mono d _ _ _ _ _ (fun v9 m9 h9 => ?_) h
    obtain ⟨z_2, I_3, L_4, rfl, rfl, h⟩ := h9
    show am_Run am_X0 (am_meth d) 216 R 71 [some (.ref 113), some (.int m), some (.int (nI k)), none] [.int z_2] (am_mk I_3 L_4, 0, 0)
    obtain ⟨hA, hB⟩ := h
    refine ar_b0 am_c_lt (t := 77) (q := 74) rfl rfl rfl (fun c_5 => ?_) (fun c_5 => ?_)
    · have h := hA c_5
      clear hA hB
      refine ar_aload_n (j := 0) (q := 78) rfl rfl rfl rfl ?_
      refine ar_iload_n (j := 2) (q := 79) rfl rfl rfl rfl ?_
      refine ar_invv (as := [.int (nI k)]) (rest := []) (b2 := (0, 0)) (b3 := (0, 0)) (q := 82) rfl rfl rfl rfl mk_113 rfl rfl rfl rfl rfl ?_
      refine am_meth_mono d _ _ _ _ _ (fun v9 m9 h9 => ?_) h
      obtain ⟨z_6, I_7, L_8, rfl, rfl, h⟩ := h9
      show am_Run am_X0 (am_meth d) 216 R 82 [some (.ref 113), some (.int m), some (.int (nI k)), none] [.int z_6] (am_mk I_7 L_8, 0, 0)
      refine ar_istore_n (j := 3) (ls' := [some (.ref 113), some (.int m), some (.int (nI k)), some (.int z_6)]) (q := 83) rfl rfl rfl rfl rfl ?_
      refine ar_iload_n (j := 3) (q := 84) rfl rfl rfl rfl ?_
      obtain ⟨hA, hB⟩ := h
      refine ar_b0 am_d_ge (t := 90) (q := 87) rfl rfl rfl (fun c_9 => ?_) (fun c_9 => ?_)
      · have h := hB c_9
        clear hA hB
        refine ar_aload_n (j := 0) (q := 91) rfl rfl rfl rfl ?_
        refine ar_getf (v := .ref 150) (q := 94) rfl rfl mk_113 rfl rfl ?_
        refine ar_iload_n (j := 2) (q := 95) rfl rfl rfl rfl ?_
        refine ar_st (i := .dup2) (n := 1) (st' := [.int (nI k), .ref 150, .int (nI k), .ref 150]) (q := 96) rfl rfl rfl rfl ?_
        obtain ⟨hx_10, h⟩ := h
        refine ar_iald (v := I_7 150 k) (q := 97) rfl mk_150 (am_inE rfl hx_10 (by decide)) (am_clE (n := 20) rfl hx_10 (by decide)) rfl ?_
        refine ar_iconst (v := 1) (q := 98) rfl rfl rfl ?_
        refine ar_iload_n (j := 3) (q := 99) rfl rfl rfl rfl ?_
        refine ar_ib (i := .ishl) (z := 1 <<< (z_6 &&& 31)) (q := 100) rfl rfl rfl rfl rfl ?_
        refine ar_ib (i := .ior) (z := (I_7 150 k) ||| (1 <<< (z_6 &&& 31))) (q := 101) rfl rfl rfl rfl rfl ?_
        obtain ⟨I_11, hI_12⟩ : ∃ z : Nat → Nat → Int32, z = va_up I_7 150 (upd (I_7 150) k ((I_7 150 k) ||| (1 <<< (z_6 &&& 31)))) := ⟨_, rfl⟩
        have h := h I_11 hI_12
        refine ar_iast (hp2 := am_mk I_11 L_8) (q := 102) rfl mk_150 (am_inE rfl hx_10 (by decide)) (by rw [am_clT (n := 20) rfl hx_10 (by decide), hI_12]; exact mk_s150) rfl ?_
        refine ar_iconst (v := 1) (q := 103) rfl rfl rfl ?_
        refine ar_istore_n (j := 1) (ls' := [some (.ref 113), some (.int 1), some (.int (nI k)), some (.int z_6)]) (q := 104) rfl rfl rfl rfl rfl ?_
        refine ar_aload_n (j := 0) (q := 105) rfl rfl rfl rfl ?_
        refine ar_iload_n (j := 2) (q := 106) rfl rfl rfl rfl ?_
        refine ar_aload_n (j := 0) (q := 107) rfl rfl rfl rfl ?_
        refine ar_getf (v := .ref 149) (q := 110) rfl rfl mk_113 rfl rfl ?_
        refine ar_iload_n (j := 3) (q := 111) rfl rfl rfl rfl ?_
        obtain ⟨j_13, hx_14, hi_15, h⟩ := h
        refine ar_iald (v := I_11 149 j_13) (q := 112) rfl mk_149 (am_inE hi_15 hx_14 (by decide)) (am_clE (n := 6) hi_15 hx_14 (by decide)) rfl ?_
        refine ar_invv (as := [.int (nI k), .int (I_11 149 j_13)]) (rest := []) (b2 := (0, 0)) (b3 := (0, 0)) (q := 115) rfl rfl rfl rfl mk_113 rfl rfl rfl rfl rfl ?_
        refine am_meth_mono d _ _ _ _ _ (fun v9 m9 h9 => ?_) h
        obtain ⟨z_16, I_17, L_18, rfl, rfl, h⟩ := h9
        show am_Run am_X0 (am_meth d) 216 R 115 [some (.ref 113), some (.int 1), some (.int (nI k)), some (.int z_6)] [.int z_16] (am_mk I_17 L_18, 0, 0)
        obtain ⟨hA, hB⟩ := h
        refine ar_b0 am_c_eq (t := 125) (q := 118) rfl rfl rfl (fun c_19 => ?_) (fun c_19 => ?_)
        · have h := hA c_19
          clear hA hB
          refine ar_iinc (v := nI (k + 1)) (ls' := [some (.ref 113), some (.int 1), some (.int (nI (k + 1))), some (.int z_6)]) (q := 128) rfl rfl rfl (nI_1 _) rfl rfl ?_
          refine ar_goto (t := 58) rfl rfl ?_
          exact am_Run.weak (ls' := _) (by exact ⟨rfl, ⟨rfl, ⟨rfl, trivial⟩⟩⟩) h
        · have h := hB c_19
          clear hA hB
          refine ar_aload_n (j := 0) (q := 119) rfl rfl rfl rfl ?_
          refine ar_getf (v := .ref 149) (q := 122) rfl rfl mk_113 rfl rfl ?_
          refine ar_iload_n (j := 3) (q := 123) rfl rfl rfl rfl ?_
          refine ar_iload_n (j := 2) (q := 124) rfl rfl rfl rfl ?_
          obtain ⟨I_20, hI_21⟩ : ∃ z : Nat → Nat → Int32, z = va_up I_17 149 (upd (I_17 149) j_13 (nI k)) := ⟨_, rfl⟩
          have h := h I_20 hI_21
          refine ar_iast (hp2 := am_mk I_20 L_18) (q := 125) rfl mk_149 (am_inE hi_15 hx_14 (by decide)) (by rw [am_clT (n := 6) hi_15 hx_14 (by decide), hI_21]; exact mk_s149) rfl ?_
          refine ar_iinc (v := nI (k + 1)) (ls' := [some (.ref 113), some (.int 1), some (.int (nI (k + 1))), some (.int z_6)]) (q := 128) rfl rfl rfl (nI_1 _) rfl rfl ?_
          refine ar_goto (t := 58) rfl rfl ?_
          exact am_Run.weak (ls' := _) (by exact ⟨rfl, ⟨rfl, ⟨rfl, trivial⟩⟩⟩) h
      · have c_9 := Classical.not_not.mp c_9
        have h := hA c_9
        clear hA hB
        refine ar_goto (t := 125) rfl rfl ?_
        refine ar_iinc (v := nI (k + 1)) (ls' := [some (.ref 113), some (.int m), some (.int (nI (k + 1))), some (.int z_6)]) (q := 128) rfl rfl rfl (nI_1 _) rfl rfl ?_
        refine ar_goto (t := 58) rfl rfl ?_
        exact am_Run.weak (ls' := _) (by exact ⟨rfl, ⟨rfl, ⟨rfl, trivial⟩⟩⟩) h
    · have h := hB c_5
      clear hA hB
      refine ar_goto (t := 125) rfl rfl ?_
      refine ar_iinc (v := nI (k + 1)) (ls' := [some (.ref 113), some (.int m), some (.int (nI (k + 1))), none]) (q := 128) rfl rfl rfl (nI_1 _) rfl rfl ?_
      refine ar_goto (t := 58) rfl rfl ?_
      exact am_Run.weak (ls' := _) (by exact ⟨rfl, ⟨rfl, ⟨rfl, trivial⟩⟩⟩) h
theorem r_M_pair_0 {d : Nat} {R : am_R} {I : Nat → Nat → Int32} {L : Nat → Nat → Int64} {x : Int32} (h : am_meth d 215 [.ref 113] (am_mk I L, 0, 0) (am_ri (fun z_1 I_2 L_3 => ((z_1 < 0 → (am_meth d 151 [.ref 113, .int z_1] (am_mk I_2 L_3, 0, 0) (am_ri (fun z_5 I_6 L_7 => R (some (.int z_5)) (am_mk I_6 L_7, 0, 0))))) ∧ (¬ z_1 < 0 → (((x < 0 → (am_meth d 151 [.ref 113, .int (-2 : Int32)] (am_mk I_2 L_3, 0, 0) (am_ri (fun z_9 I_10 L_11 => R (some (.int z_9)) (am_mk I_10 L_11, 0, 0))))) ∧ (¬ x < 0 → (((x < (I_2 113 39) → (am_meth d 216 [.ref 113] (am_mk I_2 L_3, 0, 0) (am_rv (fun I_13 L_14 => ∃ j_15 : Nat, j_15 < 6 ∧ x = nI j_15 ∧ ((((I_13 149 j_15) < 0 → (R (some (.int (-9 : Int32))) (am_mk I_13 L_14, 0, 0))) ∧ (¬ (I_13 149 j_15) < 0 → (R (some (.int (I_13 149 j_15))) (am_mk I_13 L_14, 0, 0))))))))) ∧ (¬ x < (I_2 113 39) → (am_meth d 151 [.ref 113, .int (-2 : Int32)] (am_mk I_2 L_3, 0, 0) (am_ri (fun z_19 I_20 L_21 => R (some (.int z_19)) (am_mk I_20 L_21, 0, 0))))))))))))))) : am_Run am_X0 (am_meth d) 214 R 0 [some (.ref 113), some (.int x), none] [] (am_mk I L, 0, 0) := by
  refine ar_aload_n (j := 0) (q := 1) rfl rfl rfl rfl ?_
  refine ar_invv (as := []) (rest := []) (b2 := (0, 0)) (b3 := (0, 0)) (q := 4) rfl rfl rfl rfl mk_113 rfl rfl rfl rfl rfl ?_
  refine am_meth_mono d _ _ _ _ _ (fun v9 m9 h9 => ?_) h
  obtain ⟨z_1, I_2, L_3, rfl, rfl, h⟩ := h9
  show am_Run am_X0 (am_meth d) 214 R 4 [some (.ref 113), some (.int x), none] [.int z_1] (am_mk I_2 L_3, 0, 0)
  refine ar_istore_n (j := 2) (ls' := [some (.ref 113), some (.int x), some (.int z_1)]) (q := 5) rfl rfl rfl rfl rfl ?_
  refine ar_iload_n (j := 2) (q := 6) rfl rfl rfl rfl ?_
  obtain ⟨hA, hB⟩ := h
  refine ar_b0 am_d_ge (t := 15) (q := 9) rfl rfl rfl (fun c_4 => ?_) (fun c_4 => ?_)
  · have h := hB c_4
    clear hA hB
    refine ar_iload_n (j := 1) (q := 16) rfl rfl rfl rfl ?_
    obtain ⟨hA, hB⟩ := h
    refine ar_b0 am_c_lt (t := 27) (q := 19) rfl rfl rfl (fun c_8 => ?_) (fun c_8 => ?_)
    · have h := hA c_8
      clear hA hB
      refine ar_aload_n (j := 0) (q := 28) rfl rfl rfl rfl ?_
      refine ar_bipush (v := (-2 : Int32)) (q := 30) rfl rfl rfl ?_
      refine ar_invv (as := [.int (-2 : Int32)]) (rest := []) (b2 := (0, 0)) (b3 := (0, 0)) (q := 33) rfl rfl rfl rfl mk_113 rfl rfl rfl rfl rfl ?_
      refine am_meth_mono d _ _ _ _ _ (fun v9 m9 h9 => ?_) h
      obtain ⟨z_9, I_10, L_11, rfl, rfl, h⟩ := h9
      show am_Run am_X0 (am_meth d) 214 R 33 [some (.ref 113), some (.int x), some (.int z_1)] [.int z_9] (am_mk I_10 L_11, 0, 0)
      exact ar_iret rfl rfl h
    · have h := hB c_8
      clear hA hB
      refine ar_iload_n (j := 1) (q := 20) rfl rfl rfl rfl ?_
      refine ar_aload_n (j := 0) (q := 21) rfl rfl rfl rfl ?_
      refine ar_getf (v := .int (I_2 113 39)) (q := 24) rfl rfl mk_113 rfl rfl ?_
      obtain ⟨hA, hB⟩ := h
      refine ar_br am_c_lt (t := 34) (q := 27) rfl rfl rfl (fun c_12 => ?_) (fun c_12 => ?_)
      · have h := hA c_12
        clear hA hB
        refine ar_aload_n (j := 0) (q := 35) rfl rfl rfl rfl ?_
        refine ar_invv (as := []) (rest := []) (b2 := (0, 0)) (b3 := (0, 0)) (q := 38) rfl rfl rfl rfl mk_113 rfl rfl rfl rfl rfl ?_
        refine am_meth_mono d _ _ _ _ _ (fun v9 m9 h9 => ?_) h
        obtain ⟨I_13, L_14, rfl, rfl, h⟩ := h9
        show am_Run am_X0 (am_meth d) 214 R 38 [some (.ref 113), some (.int x), some (.int z_1)] [] (am_mk I_13 L_14, 0, 0)
        refine ar_aload_n (j := 0) (q := 39) rfl rfl rfl rfl ?_
        refine ar_getf (v := .ref 149) (q := 42) rfl rfl mk_113 rfl rfl ?_
        refine ar_iload_n (j := 1) (q := 43) rfl rfl rfl rfl ?_
        obtain ⟨j_15, hx_16, hi_17, h⟩ := h
        refine ar_iald (v := I_13 149 j_15) (q := 44) rfl mk_149 (am_inE hi_17 hx_16 (by decide)) (am_clE (n := 6) hi_17 hx_16 (by decide)) rfl ?_
        obtain ⟨hA, hB⟩ := h
        refine ar_b0 am_d_ge (t := 52) (q := 47) rfl rfl rfl (fun c_18 => ?_) (fun c_18 => ?_)
        · have h := hB c_18
          clear hA hB
          refine ar_aload_n (j := 0) (q := 53) rfl rfl rfl rfl ?_
          refine ar_getf (v := .ref 149) (q := 56) rfl rfl mk_113 rfl rfl ?_
          refine ar_iload_n (j := 1) (q := 57) rfl rfl rfl rfl ?_
          refine ar_iald (v := I_13 149 j_15) (q := 58) rfl mk_149 (am_inE hi_17 hx_16 (by decide)) (am_clE (n := 6) hi_17 hx_16 (by decide)) rfl ?_
          exact ar_iret rfl rfl h
        · have c_18 := Classical.not_not.mp c_18
          have h := hA c_18
          clear hA hB
          refine ar_bipush (v := (-9 : Int32)) (q := 49) rfl rfl rfl ?_
          refine ar_goto (t := 58) rfl rfl ?_
          exact ar_iret rfl rfl h
      · have h := hB c_12
        clear hA hB
        refine ar_aload_n (j := 0) (q := 28) rfl rfl rfl rfl ?_
        refine ar_bipush (v := (-2 : Int32)) (q := 30) rfl rfl rfl ?_
        refine ar_invv (as := [.int (-2 : Int32)]) (rest := []) (b2 := (0, 0)) (b3 := (0, 0)) (q := 33) rfl rfl rfl rfl mk_113 rfl rfl rfl rfl rfl ?_
        refine am_meth_mono d _ _ _ _ _ (fun v9 m9 h9 => ?_) h
        obtain ⟨z_19, I_20, L_21, rfl, rfl, h⟩ := h9
        show am_Run am_X0 (am_meth d) 214 R 33 [some (.ref 113), some (.int x), some (.int z_1)] [.int z_19] (am_mk I_20 L_21, 0, 0)
        exact ar_iret rfl rfl h
  · have c_4 := Classical.not_not.mp c_4
    have h := hA c_4
    clear hA hB
    refine ar_aload_n (j := 0) (q := 10) rfl rfl rfl rfl ?_
    refine ar_iload_n (j := 2) (q := 11) rfl rfl rfl rfl ?_
    refine ar_invv (as := [.int z_1]) (rest := []) (b2 := (0, 0)) (b3 := (0, 0)) (q := 14) rfl rfl rfl rfl mk_113 rfl rfl rfl rfl rfl ?_
    refine am_meth_mono d _ _ _ _ _ (fun v9 m9 h9 => ?_) h
    obtain ⟨z_5, I_6, L_7, rfl, rfl, h⟩ := h9
    show am_Run am_X0 (am_meth d) 214 R 14 [some (.ref 113), some (.int x), some (.int z_1)] [.int z_5] (am_mk I_6 L_7, 0, 0)
    exact ar_iret rfl rfl h
theorem r_M_wrong_0 {d : Nat} {R : am_R} {I : Nat → Nat → Int32} {L : Nat → Nat → Int64}  (h : am_Run am_X0 (am_meth d) 226 R 2 [some (.ref 113), some (.int 0), none, none] [] (am_mk I L, 0, 0)) : am_Run am_X0 (am_meth d) 226 R 0 [some (.ref 113), none, none, none] [] (am_mk I L, 0, 0) := by
  refine ar_iconst (v := 0) (q := 1) rfl rfl rfl ?_
  refine ar_istore_n (j := 1) (ls' := [some (.ref 113), some (.int 0), none, none]) (q := 2) rfl rfl rfl rfl rfl ?_
  exact am_Run.weak (ls' := _) (by exact ⟨rfl, ⟨rfl, trivial⟩⟩) h
theorem r_M_wrong_2 {d : Nat} (hd : 1 ≤ d) {R : am_R} {I : Nat → Nat → Int32} {L : Nat → Nat → Int64} {p : Nat} (h : (((nI p) < (I 113 39) → (p < 6 ∧ ((((I 147 p) = (-1 : Int32) → (am_Run am_X0 (am_meth d) 226 R 2 [some (.ref 113), some (.int (nI (p + 1))), none, none] [] (am_mk I L, 0, 0))) ∧ (¬ (I 147 p) = (-1 : Int32) → (((0 ≤ (I 147 p) ∧ (I 147 p) < I 113 4 → (am_meth d 165 [.ref 113, .int (I 147 p), .int (I 146 p)] (am_mk I L, 0, 0) (am_ri (fun z_5 I_6 L_7 => ((z_5 = 0 → (am_Run am_X0 (am_meth d) 226 R 51 [some (.ref 113), some (.int (nI p)), some (.int (I 147 p)), some (.int 0)] [] (am_mk I_6 L_7, 0, 0))) ∧ (¬ z_5 = 0 → (R (some (.int (nI p))) (am_mk I_6 L_7, 0, 0)))))))) ∧ (¬ (0 ≤ (I 147 p) ∧ (I 147 p) < I 113 4) → (R (some (.int (nI p))) (am_mk I L, 0, 0)))))))))) ∧ (¬ (nI p) < (I 113 39) → (R (some (.int (-1 : Int32))) (am_mk I L, 0, 0))))) : am_Run am_X0 (am_meth d) 226 R 2 [some (.ref 113), some (.int (nI p)), none, none] [] (am_mk I L, 0, 0) := by
  refine ar_iload_n (j := 1) (q := 3) rfl rfl rfl rfl ?_
  refine ar_aload_n (j := 0) (q := 4) rfl rfl rfl rfl ?_
  refine ar_getf (v := .int (I 113 39)) (q := 7) rfl rfl mk_113 rfl rfl ?_
  obtain ⟨hA, hB⟩ := h
  refine ar_br am_d_ge (t := 80) (q := 10) rfl rfl rfl (fun c_1 => ?_) (fun c_1 => ?_)
  · have h := hB c_1
    clear hA hB
    refine ar_iconst (v := (-1 : Int32)) (q := 81) rfl rfl rfl ?_
    exact ar_iret rfl rfl h
  · have c_1 := Classical.not_not.mp c_1
    have h := hA c_1
    clear hA hB
    refine ar_aload_n (j := 0) (q := 11) rfl rfl rfl rfl ?_
    refine ar_getf (v := .ref 147) (q := 14) rfl rfl mk_113 rfl rfl ?_
    refine ar_iload_n (j := 1) (q := 15) rfl rfl rfl rfl ?_
    obtain ⟨hx_2, h⟩ := h
    refine ar_iald (v := I 147 p) (q := 16) rfl mk_147 (am_inE rfl hx_2 (by decide)) (am_clE (n := 6) rfl hx_2 (by decide)) rfl ?_
    refine ar_istore_n (j := 2) (ls' := [some (.ref 113), some (.int (nI p)), some (.int (I 147 p)), none]) (q := 17) rfl rfl rfl rfl rfl ?_
    refine ar_iload_n (j := 2) (q := 18) rfl rfl rfl rfl ?_
    refine ar_iconst (v := (-1 : Int32)) (q := 19) rfl rfl rfl ?_
    obtain ⟨hA, hB⟩ := h
    refine ar_br am_c_ne (t := 25) (q := 22) rfl rfl rfl (fun c_3 => ?_) (fun c_3 => ?_)
    · have h := hB c_3
      clear hA hB
      refine ar_aload_n (j := 0) (q := 26) rfl rfl rfl rfl ?_
      refine ar_iload_n (j := 2) (q := 27) rfl rfl rfl rfl ?_
      refine ar_invv (as := [.int (I 147 p)]) (rest := []) (b2 := (0, 0)) (b3 := (0, 0)) (q := 30) rfl rfl rfl rfl mk_113 rfl rfl rfl rfl rfl ?_
      obtain ⟨hA, hB⟩ := h
      refine ok_M_isKeeper (by omega)  (fun c_4 => ?_) (fun c_4 => ?_)
      · have h := hA c_4
        clear hA hB
        show am_Run am_X0 (am_meth d) 226 R 30 [some (.ref 113), some (.int (nI p)), some (.int (I 147 p)), none] [.int 1] (am_mk I L, 0, 0)
        refine ar_b0 am_c_eq (t := 47) (q := 33) rfl rfl rfl (fun c9 => absurd c9 (by decide)) (fun _ => ?_)
        refine ar_aload_n (j := 0) (q := 34) rfl rfl rfl rfl ?_
        refine ar_iload_n (j := 2) (q := 35) rfl rfl rfl rfl ?_
        refine ar_aload_n (j := 0) (q := 36) rfl rfl rfl rfl ?_
        refine ar_getf (v := .ref 146) (q := 39) rfl rfl mk_113 rfl rfl ?_
        refine ar_iload_n (j := 1) (q := 40) rfl rfl rfl rfl ?_
        refine ar_iald (v := I 146 p) (q := 41) rfl mk_146 (am_inE rfl (Nat.lt_of_lt_of_le hx_2 (by decide)) (by decide)) (am_clE (n := 12) rfl (Nat.lt_of_lt_of_le hx_2 (by decide)) (by decide)) rfl ?_
        refine ar_invv (as := [.int (I 147 p), .int (I 146 p)]) (rest := []) (b2 := (0, 0)) (b3 := (0, 0)) (q := 44) rfl rfl rfl rfl mk_113 rfl rfl rfl rfl rfl ?_
        refine am_meth_mono d _ _ _ _ _ (fun v9 m9 h9 => ?_) h
        obtain ⟨z_5, I_6, L_7, rfl, rfl, h⟩ := h9
        show am_Run am_X0 (am_meth d) 226 R 44 [some (.ref 113), some (.int (nI p)), some (.int (I 147 p)), none] [.int z_5] (am_mk I_6 L_7, 0, 0)
        obtain ⟨hA, hB⟩ := h
        refine ar_b0 am_c_eq (t := 49) (q := 47) rfl rfl rfl (fun c_8 => ?_) (fun c_8 => ?_)
        · have h := hA c_8
          clear hA hB
          refine ar_iconst (v := 0) (q := 50) rfl rfl rfl ?_
          refine ar_istore_n (j := 3) (ls' := [some (.ref 113), some (.int (nI p)), some (.int (I 147 p)), some (.int 0)]) (q := 51) rfl rfl rfl rfl rfl ?_
          exact am_Run.weak (ls' := _) (by exact ⟨rfl, ⟨rfl, ⟨rfl, ⟨rfl, trivial⟩⟩⟩⟩) h
        · have h := hB c_8
          clear hA hB
          refine ar_iload_n (j := 1) (q := 48) rfl rfl rfl rfl ?_
          exact ar_iret rfl rfl h
      · have h := hB c_4
        clear hA hB
        show am_Run am_X0 (am_meth d) 226 R 30 [some (.ref 113), some (.int (nI p)), some (.int (I 147 p)), none] [.int 0] (am_mk I L, 0, 0)
        refine ar_b0 am_c_eq (t := 47) (q := 33) rfl rfl rfl (fun _ => ?_) (fun c9 => absurd (by decide) c9)
        refine ar_iload_n (j := 1) (q := 48) rfl rfl rfl rfl ?_
        exact ar_iret rfl rfl h
    · have c_3 := Classical.not_not.mp c_3
      have h := hA c_3
      clear hA hB
      refine ar_goto (t := 74) rfl rfl ?_
      refine ar_iinc (v := nI (p + 1)) (ls' := [some (.ref 113), some (.int (nI (p + 1))), some (.int (I 147 p)), none]) (q := 77) rfl rfl rfl (nI_1 _) rfl rfl ?_
      refine ar_goto (t := 2) rfl rfl ?_
      exact am_Run.weak (ls' := _) (by exact ⟨rfl, ⟨rfl, trivial⟩⟩) h
theorem r_M_wrong_51 {d : Nat} {R : am_R} {I : Nat → Nat → Int32} {L : Nat → Nat → Int64} {p : Nat} {k : Int32} {q : Nat} (h : (((nI q) < (nI p) → (q < 6 ∧ ((((I 147 q) = k → (R (some (.int (nI p))) (am_mk I L, 0, 0))) ∧ (¬ (I 147 q) = k → (am_Run am_X0 (am_meth d) 226 R 51 [some (.ref 113), some (.int (nI p)), some (.int k), some (.int (nI (q + 1)))] [] (am_mk I L, 0, 0))))))) ∧ (¬ (nI q) < (nI p) → (am_Run am_X0 (am_meth d) 226 R 2 [some (.ref 113), some (.int (nI (p + 1))), none, none] [] (am_mk I L, 0, 0))))) : am_Run am_X0 (am_meth d) 226 R 51 [some (.ref 113), some (.int (nI p)), some (.int k), some (.int (nI q))] [] (am_mk I L, 0, 0) := by
  refine ar_iload_n (j := 3) (q := 52) rfl rfl rfl rfl ?_
  refine ar_iload_n (j := 1) (q := 53) rfl rfl rfl rfl ?_
  obtain ⟨hA, hB⟩ := h
  refine ar_br am_d_ge (t := 74) (q := 56) rfl rfl rfl (fun c_1 => ?_) (fun c_1 => ?_)
  · have h := hB c_1
    clear hA hB
    refine ar_iinc (v := nI (p + 1)) (ls' := [some (.ref 113), some (.int (nI (p + 1))), some (.int k), some (.int (nI q))]) (q := 77) rfl rfl rfl (nI_1 _) rfl rfl ?_
    refine ar_goto (t := 2) rfl rfl ?_
    exact am_Run.weak (ls' := _) (by exact ⟨rfl, ⟨rfl, trivial⟩⟩) h
  · have c_1 := Classical.not_not.mp c_1
    have h := hA c_1
    clear hA hB
    refine ar_aload_n (j := 0) (q := 57) rfl rfl rfl rfl ?_
    refine ar_getf (v := .ref 147) (q := 60) rfl rfl mk_113 rfl rfl ?_
    refine ar_iload_n (j := 3) (q := 61) rfl rfl rfl rfl ?_
    obtain ⟨hx_2, h⟩ := h
    refine ar_iald (v := I 147 q) (q := 62) rfl mk_147 (am_inE rfl hx_2 (by decide)) (am_clE (n := 6) rfl hx_2 (by decide)) rfl ?_
    refine ar_iload_n (j := 2) (q := 63) rfl rfl rfl rfl ?_
    obtain ⟨hA, hB⟩ := h
    refine ar_br am_c_ne (t := 68) (q := 66) rfl rfl rfl (fun c_3 => ?_) (fun c_3 => ?_)
    · have h := hB c_3
      clear hA hB
      refine ar_iinc (v := nI (q + 1)) (ls' := [some (.ref 113), some (.int (nI p)), some (.int k), some (.int (nI (q + 1)))]) (q := 71) rfl rfl rfl (nI_1 _) rfl rfl ?_
      refine ar_goto (t := 51) rfl rfl ?_
      exact am_Run.weak (ls' := _) (by exact ⟨rfl, ⟨rfl, ⟨rfl, ⟨rfl, trivial⟩⟩⟩⟩) h
    · have c_3 := Classical.not_not.mp c_3
      have h := hA c_3
      clear hA hB
      refine ar_iload_n (j := 1) (q := 67) rfl rfl rfl rfl ?_
      exact ar_iret rfl rfl h
theorem r_M_unrest_0 {d : Nat} {R : am_R} {I : Nat → Nat → Int32} {L : Nat → Nat → Int64}  (h : am_Run am_X0 (am_meth d) 227 R 2 [some (.ref 113), some (.int 0), none] [] (am_mk I L, 0, 0)) : am_Run am_X0 (am_meth d) 227 R 0 [some (.ref 113), none, none] [] (am_mk I L, 0, 0) := by
  refine ar_iconst (v := 0) (q := 1) rfl rfl rfl ?_
  refine ar_istore_n (j := 1) (ls' := [some (.ref 113), some (.int 0), none]) (q := 2) rfl rfl rfl rfl rfl ?_
  exact am_Run.weak (ls' := _) (by exact ⟨rfl, ⟨rfl, trivial⟩⟩) h
theorem r_M_unrest_2 {d : Nat} {R : am_R} {I : Nat → Nat → Int32} {L : Nat → Nat → Int64} {p : Nat} (h : (((nI p) < (I 113 39) → (p < 6 ∧ (∀ I_3 : Nat → Nat → Int32, I_3 = va_up I 149 (upd (I 149) p (I 147 p)) → (am_Run am_X0 (am_meth d) 227 R 2 [some (.ref 113), some (.int (nI (p + 1))), none] [] (am_mk I_3 L, 0, 0))))) ∧ (¬ (nI p) < (I 113 39) → (am_Run am_X0 (am_meth d) 227 R 30 [some (.ref 113), some (.int 0), none] [] (am_mk I L, 0, 0))))) : am_Run am_X0 (am_meth d) 227 R 2 [some (.ref 113), some (.int (nI p)), none] [] (am_mk I L, 0, 0) := by
  refine ar_iload_n (j := 1) (q := 3) rfl rfl rfl rfl ?_
  refine ar_aload_n (j := 0) (q := 4) rfl rfl rfl rfl ?_
  refine ar_getf (v := .int (I 113 39)) (q := 7) rfl rfl mk_113 rfl rfl ?_
  obtain ⟨hA, hB⟩ := h
  refine ar_br am_d_ge (t := 28) (q := 10) rfl rfl rfl (fun c_1 => ?_) (fun c_1 => ?_)
  · have h := hB c_1
    clear hA hB
    refine ar_iconst (v := 0) (q := 29) rfl rfl rfl ?_
    refine ar_istore_n (j := 1) (ls' := [some (.ref 113), some (.int 0), none]) (q := 30) rfl rfl rfl rfl rfl ?_
    exact am_Run.weak (ls' := _) (by exact ⟨rfl, ⟨rfl, trivial⟩⟩) h
  · have c_1 := Classical.not_not.mp c_1
    have h := hA c_1
    clear hA hB
    refine ar_aload_n (j := 0) (q := 11) rfl rfl rfl rfl ?_
    refine ar_getf (v := .ref 149) (q := 14) rfl rfl mk_113 rfl rfl ?_
    refine ar_iload_n (j := 1) (q := 15) rfl rfl rfl rfl ?_
    refine ar_aload_n (j := 0) (q := 16) rfl rfl rfl rfl ?_
    refine ar_getf (v := .ref 147) (q := 19) rfl rfl mk_113 rfl rfl ?_
    refine ar_iload_n (j := 1) (q := 20) rfl rfl rfl rfl ?_
    obtain ⟨hx_2, h⟩ := h
    refine ar_iald (v := I 147 p) (q := 21) rfl mk_147 (am_inE rfl hx_2 (by decide)) (am_clE (n := 6) rfl hx_2 (by decide)) rfl ?_
    obtain ⟨I_3, hI_4⟩ : ∃ z : Nat → Nat → Int32, z = va_up I 149 (upd (I 149) p (I 147 p)) := ⟨_, rfl⟩
    have h := h I_3 hI_4
    refine ar_iast (hp2 := am_mk I_3 L) (q := 22) rfl mk_149 (am_inE rfl hx_2 (by decide)) (by rw [am_clT (n := 6) rfl hx_2 (by decide), hI_4]; exact mk_s149) rfl ?_
    refine ar_iinc (v := nI (p + 1)) (ls' := [some (.ref 113), some (.int (nI (p + 1))), none]) (q := 25) rfl rfl rfl (nI_1 _) rfl rfl ?_
    refine ar_goto (t := 2) rfl rfl ?_
    exact am_Run.weak (ls' := _) (by exact ⟨rfl, ⟨rfl, trivial⟩⟩) h
theorem r_M_unrest_30 {d : Nat} {R : am_R} {I : Nat → Nat → Int32} {L : Nat → Nat → Int64} {p : Nat} (h : (((nI p) < (I 113 39) → (am_Run am_X0 (am_meth d) 227 R 40 [some (.ref 113), some (.int (nI p)), some (.int 0)] [] (am_mk I L, 0, 0))) ∧ (¬ (nI p) < (I 113 39) → (R (some (.int (-1 : Int32))) (am_mk I L, 0, 0))))) : am_Run am_X0 (am_meth d) 227 R 30 [some (.ref 113), some (.int (nI p)), none] [] (am_mk I L, 0, 0) := by
  refine ar_iload_n (j := 1) (q := 31) rfl rfl rfl rfl ?_
  refine ar_aload_n (j := 0) (q := 32) rfl rfl rfl rfl ?_
  refine ar_getf (v := .int (I 113 39)) (q := 35) rfl rfl mk_113 rfl rfl ?_
  obtain ⟨hA, hB⟩ := h
  refine ar_br am_d_ge (t := 117) (q := 38) rfl rfl rfl (fun c_1 => ?_) (fun c_1 => ?_)
  · have h := hB c_1
    clear hA hB
    refine ar_iconst (v := (-1 : Int32)) (q := 118) rfl rfl rfl ?_
    exact ar_iret rfl rfl h
  · have c_1 := Classical.not_not.mp c_1
    have h := hA c_1
    clear hA hB
    refine ar_iconst (v := 0) (q := 39) rfl rfl rfl ?_
    refine ar_istore_n (j := 2) (ls' := [some (.ref 113), some (.int (nI p)), some (.int 0)]) (q := 40) rfl rfl rfl rfl rfl ?_
    exact am_Run.weak (ls' := _) (by exact ⟨rfl, ⟨rfl, ⟨rfl, trivial⟩⟩⟩) h
theorem r_M_unrest_40 {d : Nat} {R : am_R} {I : Nat → Nat → Int32} {L : Nat → Nat → Int64} {p : Nat} {k : Nat} (h : (((nI k) < (I 113 4) → (p < 6 ∧ ((((I 149 p) = (nI k) → (am_Run am_X0 (am_meth d) 227 R 40 [some (.ref 113), some (.int (nI p)), some (.int (nI (k + 1)))] [] (am_mk I L, 0, 0))) ∧ (¬ (I 149 p) = (nI k) → (am_meth d 165 [.ref 113, .int (nI k), .int (I 146 p)] (am_mk I L, 0, 0) (am_ri (fun z_4 I_5 L_6 => ((z_4 = 0 → (am_meth d 223 [.ref 113, .int (nI k), .int (I_5 149 p)] (am_mk I_5 L_6, 0, 0) (am_ri (fun z_8 I_9 L_10 => ((z_8 = 0 → (am_Run am_X0 (am_meth d) 227 R 40 [some (.ref 113), some (.int (nI p)), some (.int (nI (k + 1)))] [] (am_mk I_9 L_10, 0, 0))) ∧ (¬ z_8 = 0 → (am_meth d 219 [.ref 113, .int (nI k)] (am_mk I_9 L_10, 0, 0) (am_ri (fun z_12 I_13 L_14 => am_meth d 221 [.ref 113, .int (nI k), .int (nI p), .int z_12] (am_mk I_13 L_14, 0, 0) (am_ri (fun z_15 I_16 L_17 => ((z_15 = 0 → (am_Run am_X0 (am_meth d) 227 R 40 [some (.ref 113), some (.int (nI p)), some (.int (nI (k + 1)))] [] (am_mk I_16 L_17, 0, 0))) ∧ (¬ z_15 = 0 → (R (some (.int (nI p))) (am_mk I_16 L_17, 0, 0))))))))))))))) ∧ (¬ z_4 = 0 → (am_Run am_X0 (am_meth d) 227 R 40 [some (.ref 113), some (.int (nI p)), some (.int (nI (k + 1)))] [] (am_mk I_5 L_6, 0, 0)))))))))))) ∧ (¬ (nI k) < (I 113 4) → (am_Run am_X0 (am_meth d) 227 R 30 [some (.ref 113), some (.int (nI (p + 1))), none] [] (am_mk I L, 0, 0))))) : am_Run am_X0 (am_meth d) 227 R 40 [some (.ref 113), some (.int (nI p)), some (.int (nI k))] [] (am_mk I L, 0, 0) := by
  refine ar_iload_n (j := 2) (q := 41) rfl rfl rfl rfl ?_
  refine ar_aload_n (j := 0) (q := 42) rfl rfl rfl rfl ?_
  refine ar_getf (v := .int (I 113 4)) (q := 45) rfl rfl mk_113 rfl rfl ?_
  obtain ⟨hA, hB⟩ := h
  refine ar_br am_d_ge (t := 111) (q := 48) rfl rfl rfl (fun c_1 => ?_) (fun c_1 => ?_)
  · have h := hB c_1
    clear hA hB
    refine ar_iinc (v := nI (p + 1)) (ls' := [some (.ref 113), some (.int (nI (p + 1))), some (.int (nI k))]) (q := 114) rfl rfl rfl (nI_1 _) rfl rfl ?_
    refine ar_goto (t := 30) rfl rfl ?_
    exact am_Run.weak (ls' := _) (by exact ⟨rfl, ⟨rfl, trivial⟩⟩) h
  · have c_1 := Classical.not_not.mp c_1
    have h := hA c_1
    clear hA hB
    refine ar_aload_n (j := 0) (q := 49) rfl rfl rfl rfl ?_
    refine ar_getf (v := .ref 149) (q := 52) rfl rfl mk_113 rfl rfl ?_
    refine ar_iload_n (j := 1) (q := 53) rfl rfl rfl rfl ?_
    obtain ⟨hx_2, h⟩ := h
    refine ar_iald (v := I 149 p) (q := 54) rfl mk_149 (am_inE rfl hx_2 (by decide)) (am_clE (n := 6) rfl hx_2 (by decide)) rfl ?_
    refine ar_iload_n (j := 2) (q := 55) rfl rfl rfl rfl ?_
    obtain ⟨hA, hB⟩ := h
    refine ar_br am_c_eq (t := 105) (q := 58) rfl rfl rfl (fun c_3 => ?_) (fun c_3 => ?_)
    · have h := hA c_3
      clear hA hB
      refine ar_iinc (v := nI (k + 1)) (ls' := [some (.ref 113), some (.int (nI p)), some (.int (nI (k + 1)))]) (q := 108) rfl rfl rfl (nI_1 _) rfl rfl ?_
      refine ar_goto (t := 40) rfl rfl ?_
      exact am_Run.weak (ls' := _) (by exact ⟨rfl, ⟨rfl, ⟨rfl, trivial⟩⟩⟩) h
    · have h := hB c_3
      clear hA hB
      refine ar_aload_n (j := 0) (q := 59) rfl rfl rfl rfl ?_
      refine ar_iload_n (j := 2) (q := 60) rfl rfl rfl rfl ?_
      refine ar_aload_n (j := 0) (q := 61) rfl rfl rfl rfl ?_
      refine ar_getf (v := .ref 146) (q := 64) rfl rfl mk_113 rfl rfl ?_
      refine ar_iload_n (j := 1) (q := 65) rfl rfl rfl rfl ?_
      refine ar_iald (v := I 146 p) (q := 66) rfl mk_146 (am_inE rfl (Nat.lt_of_lt_of_le hx_2 (by decide)) (by decide)) (am_clE (n := 12) rfl (Nat.lt_of_lt_of_le hx_2 (by decide)) (by decide)) rfl ?_
      refine ar_invv (as := [.int (nI k), .int (I 146 p)]) (rest := []) (b2 := (0, 0)) (b3 := (0, 0)) (q := 69) rfl rfl rfl rfl mk_113 rfl rfl rfl rfl rfl ?_
      refine am_meth_mono d _ _ _ _ _ (fun v9 m9 h9 => ?_) h
      obtain ⟨z_4, I_5, L_6, rfl, rfl, h⟩ := h9
      show am_Run am_X0 (am_meth d) 227 R 69 [some (.ref 113), some (.int (nI p)), some (.int (nI k))] [.int z_4] (am_mk I_5 L_6, 0, 0)
      obtain ⟨hA, hB⟩ := h
      refine ar_b0 am_c_eq (t := 75) (q := 72) rfl rfl rfl (fun c_7 => ?_) (fun c_7 => ?_)
      · have h := hA c_7
        clear hA hB
        refine ar_aload_n (j := 0) (q := 76) rfl rfl rfl rfl ?_
        refine ar_iload_n (j := 2) (q := 77) rfl rfl rfl rfl ?_
        refine ar_aload_n (j := 0) (q := 78) rfl rfl rfl rfl ?_
        refine ar_getf (v := .ref 149) (q := 81) rfl rfl mk_113 rfl rfl ?_
        refine ar_iload_n (j := 1) (q := 82) rfl rfl rfl rfl ?_
        refine ar_iald (v := I_5 149 p) (q := 83) rfl mk_149 (am_inE rfl hx_2 (by decide)) (am_clE (n := 6) rfl hx_2 (by decide)) rfl ?_
        refine ar_invv (as := [.int (nI k), .int (I_5 149 p)]) (rest := []) (b2 := (0, 0)) (b3 := (0, 0)) (q := 86) rfl rfl rfl rfl mk_113 rfl rfl rfl rfl rfl ?_
        refine am_meth_mono d _ _ _ _ _ (fun v9 m9 h9 => ?_) h
        obtain ⟨z_8, I_9, L_10, rfl, rfl, h⟩ := h9
        show am_Run am_X0 (am_meth d) 227 R 86 [some (.ref 113), some (.int (nI p)), some (.int (nI k))] [.int z_8] (am_mk I_9 L_10, 0, 0)
        obtain ⟨hA, hB⟩ := h
        refine ar_b0 am_c_eq (t := 105) (q := 89) rfl rfl rfl (fun c_11 => ?_) (fun c_11 => ?_)
        · have h := hA c_11
          clear hA hB
          refine ar_iinc (v := nI (k + 1)) (ls' := [some (.ref 113), some (.int (nI p)), some (.int (nI (k + 1)))]) (q := 108) rfl rfl rfl (nI_1 _) rfl rfl ?_
          refine ar_goto (t := 40) rfl rfl ?_
          exact am_Run.weak (ls' := _) (by exact ⟨rfl, ⟨rfl, ⟨rfl, trivial⟩⟩⟩) h
        · have h := hB c_11
          clear hA hB
          refine ar_aload_n (j := 0) (q := 90) rfl rfl rfl rfl ?_
          refine ar_iload_n (j := 2) (q := 91) rfl rfl rfl rfl ?_
          refine ar_iload_n (j := 1) (q := 92) rfl rfl rfl rfl ?_
          refine ar_aload_n (j := 0) (q := 93) rfl rfl rfl rfl ?_
          refine ar_iload_n (j := 2) (q := 94) rfl rfl rfl rfl ?_
          refine ar_invv (as := [.int (nI k)]) (rest := [.int (nI p), .int (nI k), .ref 113]) (b2 := (0, 0)) (b3 := (0, 0)) (q := 97) rfl rfl rfl rfl mk_113 rfl rfl rfl rfl rfl ?_
          refine am_meth_mono d _ _ _ _ _ (fun v9 m9 h9 => ?_) h
          obtain ⟨z_12, I_13, L_14, rfl, rfl, h⟩ := h9
          show am_Run am_X0 (am_meth d) 227 R 97 [some (.ref 113), some (.int (nI p)), some (.int (nI k))] [.int z_12, .int (nI p), .int (nI k), .ref 113] (am_mk I_13 L_14, 0, 0)
          refine ar_invv (as := [.int (nI k), .int (nI p), .int z_12]) (rest := []) (b2 := (0, 0)) (b3 := (0, 0)) (q := 100) rfl rfl rfl rfl mk_113 rfl rfl rfl rfl rfl ?_
          refine am_meth_mono d _ _ _ _ _ (fun v9 m9 h9 => ?_) h
          obtain ⟨z_15, I_16, L_17, rfl, rfl, h⟩ := h9
          show am_Run am_X0 (am_meth d) 227 R 100 [some (.ref 113), some (.int (nI p)), some (.int (nI k))] [.int z_15] (am_mk I_16 L_17, 0, 0)
          obtain ⟨hA, hB⟩ := h
          refine ar_b0 am_c_eq (t := 105) (q := 103) rfl rfl rfl (fun c_18 => ?_) (fun c_18 => ?_)
          · have h := hA c_18
            clear hA hB
            refine ar_iinc (v := nI (k + 1)) (ls' := [some (.ref 113), some (.int (nI p)), some (.int (nI (k + 1)))]) (q := 108) rfl rfl rfl (nI_1 _) rfl rfl ?_
            refine ar_goto (t := 40) rfl rfl ?_
            exact am_Run.weak (ls' := _) (by exact ⟨rfl, ⟨rfl, ⟨rfl, trivial⟩⟩⟩) h
          · have h := hB c_18
            clear hA hB
            refine ar_iload_n (j := 1) (q := 104) rfl rfl rfl rfl ?_
            exact ar_iret rfl rfl h
      · have h := hB c_7
        clear hA hB
        refine ar_goto (t := 105) rfl rfl ?_
        refine ar_iinc (v := nI (k + 1)) (ls' := [some (.ref 113), some (.int (nI p)), some (.int (nI (k + 1)))]) (q := 108) rfl rfl rfl (nI_1 _) rfl rfl ?_
        refine ar_goto (t := 40) rfl rfl ?_
        exact am_Run.weak (ls' := _) (by exact ⟨rfl, ⟨rfl, ⟨rfl, trivial⟩⟩⟩) h
theorem r_M_judge_0 {d : Nat} {R : am_R} {I : Nat → Nat → Int32} {L : Nat → Nat → Int64}  (h : am_meth d 215 [.ref 113] (am_mk I L, 0, 0) (am_ri (fun z_1 I_2 L_3 => ((z_1 < 0 → (am_meth d 151 [.ref 113, .int z_1] (am_mk I_2 L_3, 0, 0) (am_ri (fun z_5 I_6 L_7 => R (some (.int z_5)) (am_mk I_6 L_7, 0, 0))))) ∧ (¬ z_1 < 0 → ((((I_2 113 41) = (I_2 113 39) → (∀ I_9 : Nat → Nat → Int32, I_9 = va_up I_2 113 (upd (I_2 113) 41 0) → (am_meth d 226 [.ref 113] (am_mk I_9 L_3, 0, 0) (am_ri (fun z_11 I_12 L_13 => ((z_11 < 0 → (am_meth d 227 [.ref 113] (am_mk I_12 L_13, 0, 0) (am_ri (fun z_15 I_16 L_17 => ((z_15 < 0 → (R (some (.int (-9 : Int32))) (am_mk I_16 L_17, 0, 0))) ∧ (¬ z_15 < 0 → (R (some (.int (20 + z_15))) (am_mk I_16 L_17, 0, 0)))))))) ∧ (¬ z_11 < 0 → (R (some (.int z_11)) (am_mk I_12 L_13, 0, 0))))))))) ∧ (¬ (I_2 113 41) = (I_2 113 39) → (am_meth d 151 [.ref 113, .int (-3 : Int32)] (am_mk I_2 L_3, 0, 0) (am_ri (fun z_19 I_20 L_21 => R (some (.int z_19)) (am_mk I_20 L_21, 0, 0)))))))))))) : am_Run am_X0 (am_meth d) 225 R 0 [some (.ref 113), none, none, none] [] (am_mk I L, 0, 0) := by
  refine ar_aload_n (j := 0) (q := 1) rfl rfl rfl rfl ?_
  refine ar_invv (as := []) (rest := []) (b2 := (0, 0)) (b3 := (0, 0)) (q := 4) rfl rfl rfl rfl mk_113 rfl rfl rfl rfl rfl ?_
  refine am_meth_mono d _ _ _ _ _ (fun v9 m9 h9 => ?_) h
  obtain ⟨z_1, I_2, L_3, rfl, rfl, h⟩ := h9
  show am_Run am_X0 (am_meth d) 225 R 4 [some (.ref 113), none, none, none] [.int z_1] (am_mk I_2 L_3, 0, 0)
  refine ar_istore_n (j := 1) (ls' := [some (.ref 113), some (.int z_1), none, none]) (q := 5) rfl rfl rfl rfl rfl ?_
  refine ar_iload_n (j := 1) (q := 6) rfl rfl rfl rfl ?_
  obtain ⟨hA, hB⟩ := h
  refine ar_b0 am_d_ge (t := 15) (q := 9) rfl rfl rfl (fun c_4 => ?_) (fun c_4 => ?_)
  · have h := hB c_4
    clear hA hB
    refine ar_aload_n (j := 0) (q := 16) rfl rfl rfl rfl ?_
    refine ar_getf (v := .int (I_2 113 41)) (q := 19) rfl rfl mk_113 rfl rfl ?_
    refine ar_aload_n (j := 0) (q := 20) rfl rfl rfl rfl ?_
    refine ar_getf (v := .int (I_2 113 39)) (q := 23) rfl rfl mk_113 rfl rfl ?_
    obtain ⟨hA, hB⟩ := h
    refine ar_br am_c_eq (t := 33) (q := 26) rfl rfl rfl (fun c_8 => ?_) (fun c_8 => ?_)
    · have h := hA c_8
      clear hA hB
      refine ar_aload_n (j := 0) (q := 34) rfl rfl rfl rfl ?_
      refine ar_iconst (v := 0) (q := 35) rfl rfl rfl ?_
      obtain ⟨I_9, hI_10⟩ : ∃ z : Nat → Nat → Int32, z = va_up I_2 113 (upd (I_2 113) 41 0) := ⟨_, rfl⟩
      have h := h I_9 hI_10
      refine ar_putf (hp2 := am_mk I_9 L_3) (q := 38) rfl rfl mk_113 rfl (by rw [hI_10]; exact mk_p113_41) rfl ?_
      refine ar_aload_n (j := 0) (q := 39) rfl rfl rfl rfl ?_
      refine ar_invv (as := []) (rest := []) (b2 := (0, 0)) (b3 := (0, 0)) (q := 42) rfl rfl rfl rfl mk_113 rfl rfl rfl rfl rfl ?_
      refine am_meth_mono d _ _ _ _ _ (fun v9 m9 h9 => ?_) h
      obtain ⟨z_11, I_12, L_13, rfl, rfl, h⟩ := h9
      show am_Run am_X0 (am_meth d) 225 R 42 [some (.ref 113), some (.int z_1), none, none] [.int z_11] (am_mk I_12 L_13, 0, 0)
      refine ar_istore_n (j := 2) (ls' := [some (.ref 113), some (.int z_1), some (.int z_11), none]) (q := 43) rfl rfl rfl rfl rfl ?_
      refine ar_iload_n (j := 2) (q := 44) rfl rfl rfl rfl ?_
      obtain ⟨hA, hB⟩ := h
      refine ar_b0 am_c_lt (t := 49) (q := 47) rfl rfl rfl (fun c_14 => ?_) (fun c_14 => ?_)
      · have h := hA c_14
        clear hA hB
        refine ar_aload_n (j := 0) (q := 50) rfl rfl rfl rfl ?_
        refine ar_invv (as := []) (rest := []) (b2 := (0, 0)) (b3 := (0, 0)) (q := 53) rfl rfl rfl rfl mk_113 rfl rfl rfl rfl rfl ?_
        refine am_meth_mono d _ _ _ _ _ (fun v9 m9 h9 => ?_) h
        obtain ⟨z_15, I_16, L_17, rfl, rfl, h⟩ := h9
        show am_Run am_X0 (am_meth d) 225 R 53 [some (.ref 113), some (.int z_1), some (.int z_11), none] [.int z_15] (am_mk I_16 L_17, 0, 0)
        refine ar_istore_n (j := 3) (ls' := [some (.ref 113), some (.int z_1), some (.int z_11), some (.int z_15)]) (q := 54) rfl rfl rfl rfl rfl ?_
        refine ar_iload_n (j := 3) (q := 55) rfl rfl rfl rfl ?_
        obtain ⟨hA, hB⟩ := h
        refine ar_b0 am_d_ge (t := 63) (q := 58) rfl rfl rfl (fun c_18 => ?_) (fun c_18 => ?_)
        · have h := hB c_18
          clear hA hB
          refine ar_bipush (v := 20) (q := 65) rfl rfl rfl ?_
          refine ar_iload_n (j := 3) (q := 66) rfl rfl rfl rfl ?_
          refine ar_ib (i := .iadd) (z := 20 + z_15) (q := 67) rfl rfl rfl rfl rfl ?_
          exact ar_iret rfl rfl h
        · have c_18 := Classical.not_not.mp c_18
          have h := hA c_18
          clear hA hB
          refine ar_bipush (v := (-9 : Int32)) (q := 60) rfl rfl rfl ?_
          refine ar_goto (t := 67) rfl rfl ?_
          exact ar_iret rfl rfl h
      · have h := hB c_14
        clear hA hB
        refine ar_iload_n (j := 2) (q := 48) rfl rfl rfl rfl ?_
        exact ar_iret rfl rfl h
    · have h := hB c_8
      clear hA hB
      refine ar_aload_n (j := 0) (q := 27) rfl rfl rfl rfl ?_
      refine ar_bipush (v := (-3 : Int32)) (q := 29) rfl rfl rfl ?_
      refine ar_invv (as := [.int (-3 : Int32)]) (rest := []) (b2 := (0, 0)) (b3 := (0, 0)) (q := 32) rfl rfl rfl rfl mk_113 rfl rfl rfl rfl rfl ?_
      refine am_meth_mono d _ _ _ _ _ (fun v9 m9 h9 => ?_) h
      obtain ⟨z_19, I_20, L_21, rfl, rfl, h⟩ := h9
      show am_Run am_X0 (am_meth d) 225 R 32 [some (.ref 113), some (.int z_1), none, none] [.int z_19] (am_mk I_20 L_21, 0, 0)
      exact ar_iret rfl rfl h
  · have c_4 := Classical.not_not.mp c_4
    have h := hA c_4
    clear hA hB
    refine ar_aload_n (j := 0) (q := 10) rfl rfl rfl rfl ?_
    refine ar_iload_n (j := 1) (q := 11) rfl rfl rfl rfl ?_
    refine ar_invv (as := [.int z_1]) (rest := []) (b2 := (0, 0)) (b3 := (0, 0)) (q := 14) rfl rfl rfl rfl mk_113 rfl rfl rfl rfl rfl ?_
    refine am_meth_mono d _ _ _ _ _ (fun v9 m9 h9 => ?_) h
    obtain ⟨z_5, I_6, L_7, rfl, rfl, h⟩ := h9
    show am_Run am_X0 (am_meth d) 225 R 14 [some (.ref 113), some (.int z_1), none, none] [.int z_5] (am_mk I_6 L_7, 0, 0)
    exact ar_iret rfl rfl h
