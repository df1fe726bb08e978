theorem r_Str_coder_0 {d : Nat} {R : am_R} {I : Nat → Nat → Int32} {L : Nat → Nat → Int64}  (h : R (some (.int 0)) (am_mk I L, 0, 0)) : am_Run am_X0 (am_meth d) 251 R 0 [some (.float 2)] [] (am_mk I L, 0, 0) := by
  refine ar_gets (q := 3) rfl rfl rfl ?_
  refine ar_b0 am_c_eq (t := 13) (q := 6) rfl rfl rfl (fun c9 => absurd c9 (by decide)) (fun _ => ?_)
  refine ar_aload_nx (j := 0) (q := 7) rfl rfl rfl rfl ?_
  refine ar_getx (v := .int 0) (q := 10) rfl rfl rfl ?_
  refine ar_goto (t := 14) rfl rfl ?_
  exact ar_bret rfl rfl (Or.inl rfl) h
theorem r_Str_isLatin1_0 {d : Nat} {R : am_R} {I : Nat → Nat → Int32} {L : Nat → Nat → Int64}  (h : R (some (.int 1)) (am_mk I L, 0, 0)) : am_Run am_X0 (am_meth d) 254 R 0 [some (.float 2)] [] (am_mk I L, 0, 0) := by
  refine ar_gets (q := 3) rfl rfl rfl ?_
  refine ar_b0 am_c_eq (t := 17) (q := 6) rfl rfl rfl (fun c9 => absurd c9 (by decide)) (fun _ => ?_)
  refine ar_aload_nx (j := 0) (q := 7) rfl rfl rfl rfl ?_
  refine ar_getx (v := .int 0) (q := 10) rfl rfl rfl ?_
  refine ar_b0 am_c_ne (t := 17) (q := 13) rfl rfl rfl (fun c9 => absurd (by decide) c9) (fun _ => ?_)
  refine ar_iconst (v := 1) (q := 14) rfl rfl rfl ?_
  refine ar_goto (t := 18) rfl rfl ?_
  exact ar_zret rfl rfl (Or.inr rfl) h
theorem r_Lat_canEncode_0 {d : Nat} {R : am_R} {I : Nat → Nat → Int32} {L : Nat → Nat → Int64} {x : Int32} (h : ((x < 0 → (R (some (.int 0)) (am_mk I L, 0, 0))) ∧ (¬ x < 0 → (((x ≤ 255 → (R (some (.int 1)) (am_mk I L, 0, 0))) ∧ (¬ x ≤ 255 → (R (some (.int 0)) (am_mk I L, 0, 0)))))))) : am_Run am_X0 (am_meth d) 256 R 0 [some (.int x)] [] (am_mk I L, 0, 0) := by
  refine ar_iload_n (j := 0) (q := 1) rfl rfl rfl rfl ?_
  obtain ⟨hA, hB⟩ := h
  refine ar_b0 am_c_lt (t := 15) (q := 4) rfl rfl rfl (fun c_1 => ?_) (fun c_1 => ?_)
  · have h := hA c_1
    clear hA hB
    refine ar_iconst (v := 0) (q := 16) rfl rfl rfl ?_
    exact ar_zret rfl rfl (Or.inl rfl) h
  · have h := hB c_1
    clear hA hB
    refine ar_iload_n (j := 0) (q := 5) rfl rfl rfl rfl ?_
    refine ar_sipush (v := 255) (q := 8) rfl rfl rfl ?_
    obtain ⟨hA, hB⟩ := h
    refine ar_br am_d_gt (t := 15) (q := 11) rfl rfl rfl (fun c_2 => ?_) (fun c_2 => ?_)
    · have h := hB c_2
      clear hA hB
      refine ar_iconst (v := 0) (q := 16) rfl rfl rfl ?_
      exact ar_zret rfl rfl (Or.inl rfl) h
    · have c_2 := Classical.not_not.mp c_2
      have h := hA c_2
      clear hA hB
      refine ar_iconst (v := 1) (q := 12) rfl rfl rfl ?_
      refine ar_goto (t := 16) rfl rfl ?_
      exact ar_zret rfl rfl (Or.inr rfl) h
theorem r_Lat_indexOfChar_0 {d : Nat} {R : am_R} {I : Nat → Nat → Int32} {L : Nat → Nat → Int64} {x : Int32} {a : Nat} {z : Int32} (h : am_Run am_X0 (am_meth d) 257 R 7 [some (.float 3), none, none, some (.int z), some (.int ((x : Int32).toInt8.toInt32)), some (.int (nI a))] [] (am_mk I L, 0, 0)) : am_Run am_X0 (am_meth d) 257 R 0 [some (.float 3), some (.int x), some (.int (nI a)), some (.int z), none, none] [] (am_mk I L, 0, 0) := by
  refine ar_iload_n (j := 1) (q := 1) rfl rfl rfl rfl ?_
  refine ar_st (i := .i2b) (n := 1) (st' := [.int ((x : Int32).toInt8.toInt32)]) (q := 2) rfl rfl rfl rfl ?_
  refine ar_istore (ls' := [some (.float 3), some (.int x), some (.int (nI a)), some (.int z), some (.int ((x : Int32).toInt8.toInt32)), none]) (q := 4) rfl rfl rfl rfl ?_
  refine ar_iload_n (j := 2) (q := 5) rfl rfl rfl rfl ?_
  refine ar_istore (ls' := [some (.float 3), some (.int x), some (.int (nI a)), some (.int z), some (.int ((x : Int32).toInt8.toInt32)), some (.int (nI a))]) (q := 7) rfl rfl rfl rfl ?_
  exact am_Run.weak (ls' := _) (by exact ⟨rfl, ⟨rfl, ⟨rfl, ⟨rfl, trivial⟩⟩⟩⟩) h
theorem r_Lat_indexOfChar_7 {d : Nat} {R : am_R} {I : Nat → Nat → Int32} {L : Nat → Nat → Int64} {z : Int32} {b : Int32} {j : Nat} (h : (((nI j) < z → (j < 10 ∧ ((((am_tx j) = b → (R (some (.int (nI j))) (am_mk I L, 0, 0))) ∧ (¬ (am_tx j) = b → (am_Run am_X0 (am_meth d) 257 R 7 [some (.float 3), none, none, some (.int z), some (.int b), some (.int (nI (j + 1)))] [] (am_mk I L, 0, 0))))))) ∧ (¬ (nI j) < z → (R (some (.int (-1 : Int32))) (am_mk I L, 0, 0))))) : am_Run am_X0 (am_meth d) 257 R 7 [some (.float 3), none, none, some (.int z), some (.int b), some (.int (nI j))] [] (am_mk I L, 0, 0) := by
  refine ar_iload (q := 9) rfl rfl rfl ?_
  refine ar_iload_n (j := 3) (q := 10) rfl rfl rfl rfl ?_
  obtain ⟨hA, hB⟩ := h
  refine ar_br am_d_ge (t := 31) (q := 13) rfl rfl rfl (fun c_1 => ?_) (fun c_1 => ?_)
  · have h := hB c_1
    clear hA hB
    refine ar_iconst (v := (-1 : Int32)) (q := 32) rfl rfl rfl ?_
    exact ar_iret rfl rfl h
  · have c_1 := Classical.not_not.mp c_1
    have h := hA c_1
    clear hA hB
    refine ar_aload_nx (j := 0) (q := 14) rfl rfl rfl rfl ?_
    refine ar_iload (q := 16) rfl rfl rfl ?_
    obtain ⟨hx_2, h⟩ := h
    refine ar_baldx (v := am_tx j) (q := 17) rfl (am_inE rfl hx_2 (by decide)) (am_clE (n := 10) rfl hx_2 (by decide)) rfl ?_
    refine ar_iload (q := 19) rfl rfl rfl ?_
    obtain ⟨hA, hB⟩ := h
    refine ar_br am_c_ne (t := 25) (q := 22) rfl rfl rfl (fun c_3 => ?_) (fun c_3 => ?_)
    · have h := hB c_3
      clear hA hB
      refine ar_iinc (v := nI (j + 1)) (ls' := [some (.float 3), none, none, some (.int z), some (.int b), some (.int (nI (j + 1)))]) (q := 28) rfl rfl rfl (nI_1 _) rfl rfl ?_
      refine ar_goto (t := 7) rfl rfl ?_
      exact am_Run.weak (ls' := _) (by exact ⟨rfl, ⟨rfl, ⟨rfl, ⟨rfl, trivial⟩⟩⟩⟩) h
    · have c_3 := Classical.not_not.mp c_3
      have h := hA c_3
      clear hA hB
      refine ar_iload (q := 24) rfl rfl rfl ?_
      exact ar_iret rfl rfl h
theorem r_Text_next_0 {d : Nat} {R : am_R} {I : Nat → Nat → Int32} {L : Nat → Nat → Int64}  (h : am_meth d 88 [.ref 91, .int (I 93 3)] (am_mk I L, 0, 0) (am_ri (fun z_1 I_2 L_3 => R (some (.int z_1)) (am_mk I_2 L_3, 0, 0)))) : am_Run am_X0 (am_meth d) 138 R 0 [some (.ref 93)] [] (am_mk I L, 0, 0) := by
  refine ar_aload_n (j := 0) (q := 1) rfl rfl rfl rfl ?_
  refine ar_getf (v := .ref 91) (q := 4) rfl rfl mk_93 rfl rfl ?_
  refine ar_aload_n (j := 0) (q := 5) rfl rfl rfl rfl ?_
  refine ar_getf (v := .int (I 93 3)) (q := 8) rfl rfl mk_93 rfl rfl ?_
  refine ar_invv (as := [.int (I 93 3)]) (rest := []) (b2 := (0, 0)) (b3 := (0, 0)) (q := 11) rfl rfl rfl rfl mk_91 rfl rfl rfl rfl rfl ?_
  refine am_meth_mono d _ _ _ _ _ (fun v9 m9 h9 => ?_) h
  obtain ⟨z_1, I_2, L_3, rfl, rfl, h⟩ := h9
  show am_Run am_X0 (am_meth d) 138 R 11 [some (.ref 93)] [.int z_1] (am_mk I_2 L_3, 0, 0)
  exact ar_iret rfl rfl h
theorem r_Text_fail_0 {d : Nat} {R : am_R} {I : Nat → Nat → Int32} {L : Nat → Nat → Int64}  (h : (((I 93 4) = (-1 : Int32) → (∀ I_2 : Nat → Nat → Int32, I_2 = va_up I 93 (upd (I 93) 4 (I 93 3)) → (R none (am_mk I_2 L, 0, 0)))) ∧ (¬ (I 93 4) = (-1 : Int32) → (R none (am_mk I L, 0, 0))))) : am_Run am_X0 (am_meth d) 143 R 0 [some (.ref 93)] [] (am_mk I L, 0, 0) := by
  refine ar_aload_n (j := 0) (q := 1) rfl rfl rfl rfl ?_
  refine ar_getf (v := .int (I 93 4)) (q := 4) rfl rfl mk_93 rfl rfl ?_
  refine ar_iconst (v := (-1 : Int32)) (q := 5) rfl rfl rfl ?_
  obtain ⟨hA, hB⟩ := h
  refine ar_br am_c_ne (t := 16) (q := 8) rfl rfl rfl (fun c_1 => ?_) (fun c_1 => ?_)
  · have h := hB c_1
    clear hA hB
    exact ar_vret rfl rfl h
  · have c_1 := Classical.not_not.mp c_1
    have h := hA c_1
    clear hA hB
    refine ar_aload_n (j := 0) (q := 9) rfl rfl rfl rfl ?_
    refine ar_aload_n (j := 0) (q := 10) rfl rfl rfl rfl ?_
    refine ar_getf (v := .int (I 93 3)) (q := 13) rfl rfl mk_93 rfl rfl ?_
    obtain ⟨I_2, hI_3⟩ : ∃ z : Nat → Nat → Int32, z = va_up I 93 (upd (I 93) 4 (I 93 3)) := ⟨_, rfl⟩
    have h := h I_2 hI_3
    refine ar_putf (hp2 := am_mk I_2 L) (q := 16) rfl rfl mk_93 rfl (by rw [hI_3]; exact mk_p93_4) rfl ?_
    exact ar_vret rfl rfl h
theorem r_Text_addStep_0 {d : Nat} {R : am_R} {I : Nat → Nat → Int32} {L : Nat → Nat → Int64} {x : Int32} (h : (((I 93 0) < 60 → (∀ I_2 : Nat → Nat → Int32, I_2 = va_up I 93 (upd (I 93) 0 ((I 93 0) + 1)) → (∃ j_4 : Nat, j_4 < 60 ∧ I 93 0 = nI j_4 ∧ (∀ I_7 : Nat → Nat → Int32, I_7 = va_up I_2 94 (upd (I_2 94) j_4 x) → (R none (am_mk I_7 L, 0, 0)))))) ∧ (¬ (I 93 0) < 60 → (R none (am_mk I L, 0, 0))))) : am_Run am_X0 (am_meth d) 141 R 0 [some (.ref 93), some (.int x)] [] (am_mk I L, 0, 0) := by
  refine ar_aload_n (j := 0) (q := 1) rfl rfl rfl rfl ?_
  refine ar_getf (v := .int (I 93 0)) (q := 4) rfl rfl mk_93 rfl rfl ?_
  refine ar_bipush (v := 60) (q := 6) rfl rfl rfl ?_
  obtain ⟨hA, hB⟩ := h
  refine ar_br am_d_ge (t := 26) (q := 9) rfl rfl rfl (fun c_1 => ?_) (fun c_1 => ?_)
  · have h := hB c_1
    clear hA hB
    exact ar_vret rfl rfl h
  · have c_1 := Classical.not_not.mp c_1
    have h := hA c_1
    clear hA hB
    refine ar_aload_n (j := 0) (q := 10) rfl rfl rfl rfl ?_
    refine ar_getf (v := .ref 94) (q := 13) rfl rfl mk_93 rfl rfl ?_
    refine ar_aload_n (j := 0) (q := 14) rfl rfl rfl rfl ?_
    refine ar_st (i := .dup) (n := 1) (st' := [.ref 93, .ref 93, .ref 94]) (q := 15) rfl rfl rfl rfl ?_
    refine ar_getf (v := .int (I 93 0)) (q := 18) rfl rfl mk_93 rfl rfl ?_
    refine ar_st (i := .dup_x1) (n := 1) (st' := [.int (I 93 0), .ref 93, .int (I 93 0), .ref 94]) (q := 19) rfl rfl rfl rfl ?_
    refine ar_iconst (v := 1) (q := 20) rfl rfl rfl ?_
    refine ar_ib (i := .iadd) (z := (I 93 0) + 1) (q := 21) rfl rfl rfl rfl rfl ?_
    obtain ⟨I_2, hI_3⟩ : ∃ z : Nat → Nat → Int32, z = va_up I 93 (upd (I 93) 0 ((I 93 0) + 1)) := ⟨_, rfl⟩
    have h := h I_2 hI_3
    refine ar_putf (hp2 := am_mk I_2 L) (q := 24) rfl rfl mk_93 rfl (by rw [hI_3]; exact mk_p93_0) rfl ?_
    refine ar_iload_n (j := 1) (q := 25) rfl rfl rfl rfl ?_
    obtain ⟨j_4, hx_5, hi_6, h⟩ := h
    obtain ⟨I_7, hI_8⟩ : ∃ z : Nat → Nat → Int32, z = va_up I_2 94 (upd (I_2 94) j_4 x) := ⟨_, rfl⟩
    have h := h I_7 hI_8
    refine ar_iast (hp2 := am_mk I_7 L) (q := 26) rfl mk_94 (am_inE hi_6 hx_5 (by decide)) (by rw [am_clT hi_6 hx_5 (by decide), hI_8]; exact mk_s94) rfl ?_
    exact ar_vret rfl rfl h
theorem r_Text_isDigit_0 {d : Nat} {R : am_R} {I : Nat → Nat → Int32} {L : Nat → Nat → Int64} {x : Int32} (h : ((x < 48 → (R (some (.int 0)) (am_mk I L, 0, 0))) ∧ (¬ x < 48 → (((x ≤ 57 → (R (some (.int 1)) (am_mk I L, 0, 0))) ∧ (¬ x ≤ 57 → (R (some (.int 0)) (am_mk I L, 0, 0)))))))) : am_Run am_X0 (am_meth d) 139 R 0 [some (.int x)] [] (am_mk I L, 0, 0) := by
  refine ar_iload_n (j := 0) (q := 1) rfl rfl rfl rfl ?_
  refine ar_bipush (v := 48) (q := 3) rfl rfl rfl ?_
  obtain ⟨hA, hB⟩ := h
  refine ar_br am_c_lt (t := 16) (q := 6) rfl rfl rfl (fun c_1 => ?_) (fun c_1 => ?_)
  · have h := hA c_1
    clear hA hB
    refine ar_iconst (v := 0) (q := 17) rfl rfl rfl ?_
    exact ar_zret rfl rfl (Or.inl rfl) h
  · have h := hB c_1
    clear hA hB
    refine ar_iload_n (j := 0) (q := 7) rfl rfl rfl rfl ?_
    refine ar_bipush (v := 57) (q := 9) rfl rfl rfl ?_
    obtain ⟨hA, hB⟩ := h
    refine ar_br am_d_gt (t := 16) (q := 12) rfl rfl rfl (fun c_2 => ?_) (fun c_2 => ?_)
    · have h := hB c_2
      clear hA hB
      refine ar_iconst (v := 0) (q := 17) rfl rfl rfl ?_
      exact ar_zret rfl rfl (Or.inl rfl) h
    · have c_2 := Classical.not_not.mp c_2
      have h := hA c_2
      clear hA hB
      refine ar_iconst (v := 1) (q := 13) rfl rfl rfl ?_
      refine ar_goto (t := 17) rfl rfl ?_
      exact ar_zret rfl rfl (Or.inr rfl) h
