theorem r_Row_firstPlaceOf_row_0 {d : Nat} {R : am_R} {I : Nat → Nat → Int32} {L : Nat → Nat → Int64} {x : Int32} (h : am_Run am_X0 (am_meth d) 90 R 2 [some (.ref 95), some (.int x), some (.int 0)] [] (am_mk I L, 0, 0)) : am_Run am_X0 (am_meth d) 90 R 0 [some (.ref 95), some (.int x), none] [] (am_mk I L, 0, 0) := by
  refine ar_iconst (v := 0) (q := 1) rfl rfl rfl ?_
  refine ar_istore_n (j := 2) (ls' := [some (.ref 95), some (.int x), some (.int 0)]) (q := 2) rfl rfl rfl rfl rfl ?_
  exact am_Run.weak (ls' := _) (by exact ⟨rfl, ⟨rfl, ⟨rfl, trivial⟩⟩⟩) h
theorem r_Row_firstPlaceOf_row_2 {d : Nat} {R : am_R} {I : Nat → Nat → Int32} {L : Nat → Nat → Int64} {x : Int32} {j : Nat} (h : (((nI j) < (I 95 0) → (j < 12 ∧ ((((I 96 j) = x → (R (some (.int (nI j))) (am_mk I L, 0, 0))) ∧ (¬ (I 96 j) = x → (am_Run am_X0 (am_meth d) 90 R 2 [some (.ref 95), some (.int x), some (.int (nI (j + 1)))] [] (am_mk I L, 0, 0))))))) ∧ (¬ (nI j) < (I 95 0) → (R (some (.int (I 95 0))) (am_mk I L, 0, 0))))) : am_Run am_X0 (am_meth d) 90 R 2 [some (.ref 95), some (.int x), some (.int (nI j))] [] (am_mk I L, 0, 0) := by
  refine ar_iload_n (j := 2) (q := 3) rfl rfl rfl rfl ?_
  refine ar_aload_n (j := 0) (q := 4) rfl rfl rfl rfl ?_
  refine ar_getf (v := .int (I 95 0)) (q := 7) rfl rfl mk_95 rfl rfl ?_
  obtain ⟨hA, hB⟩ := h
  refine ar_br am_d_ge (t := 28) (q := 10) rfl rfl rfl (fun c_1 => ?_) (fun c_1 => ?_)
  · have h := hB c_1
    clear hA hB
    refine ar_aload_n (j := 0) (q := 29) rfl rfl rfl rfl ?_
    refine ar_getf (v := .int (I 95 0)) (q := 32) rfl rfl mk_95 rfl rfl ?_
    exact ar_iret rfl rfl h
  · have c_1 := Classical.not_not.mp c_1
    have h := hA c_1
    clear hA hB
    refine ar_aload_n (j := 0) (q := 11) rfl rfl rfl rfl ?_
    refine ar_getf (v := .ref 96) (q := 14) rfl rfl mk_95 rfl rfl ?_
    refine ar_iload_n (j := 2) (q := 15) rfl rfl rfl rfl ?_
    obtain ⟨hx_2, h⟩ := h
    refine ar_iald (v := I 96 j) (q := 16) rfl mk_96 (am_inE rfl hx_2 (by decide)) (am_clE (n := 12) rfl hx_2 (by decide)) rfl ?_
    refine ar_iload_n (j := 1) (q := 17) rfl rfl rfl rfl ?_
    obtain ⟨hA, hB⟩ := h
    refine ar_br am_c_ne (t := 22) (q := 20) rfl rfl rfl (fun c_3 => ?_) (fun c_3 => ?_)
    · have h := hB c_3
      clear hA hB
      refine ar_iinc (v := nI (j + 1)) (ls' := [some (.ref 95), some (.int x), some (.int (nI (j + 1)))]) (q := 25) rfl rfl rfl (nI_1 _) rfl rfl ?_
      refine ar_goto (t := 2) rfl rfl ?_
      exact am_Run.weak (ls' := _) (by exact ⟨rfl, ⟨rfl, ⟨rfl, trivial⟩⟩⟩) h
    · have c_3 := Classical.not_not.mp c_3
      have h := hA c_3
      clear hA hB
      refine ar_iload_n (j := 2) (q := 21) rfl rfl rfl rfl ?_
      exact ar_iret rfl rfl h
theorem r_Row_firstPlaceOf_told_0 {d : Nat} {R : am_R} {I : Nat → Nat → Int32} {L : Nat → Nat → Int64} {x : Int32} (h : am_Run am_X0 (am_meth d) 90 R 2 [some (.ref 97), some (.int x), some (.int 0)] [] (am_mk I L, 0, 0)) : am_Run am_X0 (am_meth d) 90 R 0 [some (.ref 97), some (.int x), none] [] (am_mk I L, 0, 0) := by
  refine ar_iconst (v := 0) (q := 1) rfl rfl rfl ?_
  refine ar_istore_n (j := 2) (ls' := [some (.ref 97), some (.int x), some (.int 0)]) (q := 2) rfl rfl rfl rfl rfl ?_
  exact am_Run.weak (ls' := _) (by exact ⟨rfl, ⟨rfl, ⟨rfl, trivial⟩⟩⟩) h
theorem r_Row_firstPlaceOf_told_2 {d : Nat} {R : am_R} {I : Nat → Nat → Int32} {L : Nat → Nat → Int64} {x : Int32} {j : Nat} (h : (((nI j) < (I 97 0) → (j < 6 ∧ ((((I 98 j) = x → (R (some (.int (nI j))) (am_mk I L, 0, 0))) ∧ (¬ (I 98 j) = x → (am_Run am_X0 (am_meth d) 90 R 2 [some (.ref 97), some (.int x), some (.int (nI (j + 1)))] [] (am_mk I L, 0, 0))))))) ∧ (¬ (nI j) < (I 97 0) → (R (some (.int (I 97 0))) (am_mk I L, 0, 0))))) : am_Run am_X0 (am_meth d) 90 R 2 [some (.ref 97), some (.int x), some (.int (nI j))] [] (am_mk I L, 0, 0) := by
  refine ar_iload_n (j := 2) (q := 3) rfl rfl rfl rfl ?_
  refine ar_aload_n (j := 0) (q := 4) rfl rfl rfl rfl ?_
  refine ar_getf (v := .int (I 97 0)) (q := 7) rfl rfl mk_97 rfl rfl ?_
  obtain ⟨hA, hB⟩ := h
  refine ar_br am_d_ge (t := 28) (q := 10) rfl rfl rfl (fun c_1 => ?_) (fun c_1 => ?_)
  · have h := hB c_1
    clear hA hB
    refine ar_aload_n (j := 0) (q := 29) rfl rfl rfl rfl ?_
    refine ar_getf (v := .int (I 97 0)) (q := 32) rfl rfl mk_97 rfl rfl ?_
    exact ar_iret rfl rfl h
  · have c_1 := Classical.not_not.mp c_1
    have h := hA c_1
    clear hA hB
    refine ar_aload_n (j := 0) (q := 11) rfl rfl rfl rfl ?_
    refine ar_getf (v := .ref 98) (q := 14) rfl rfl mk_97 rfl rfl ?_
    refine ar_iload_n (j := 2) (q := 15) rfl rfl rfl rfl ?_
    obtain ⟨hx_2, h⟩ := h
    refine ar_iald (v := I 98 j) (q := 16) rfl mk_98 (am_inE rfl hx_2 (by decide)) (am_clE (n := 6) rfl hx_2 (by decide)) rfl ?_
    refine ar_iload_n (j := 1) (q := 17) rfl rfl rfl rfl ?_
    obtain ⟨hA, hB⟩ := h
    refine ar_br am_c_ne (t := 22) (q := 20) rfl rfl rfl (fun c_3 => ?_) (fun c_3 => ?_)
    · have h := hB c_3
      clear hA hB
      refine ar_iinc (v := nI (j + 1)) (ls' := [some (.ref 97), some (.int x), some (.int (nI (j + 1)))]) (q := 25) rfl rfl rfl (nI_1 _) rfl rfl ?_
      refine ar_goto (t := 2) rfl rfl ?_
      exact am_Run.weak (ls' := _) (by exact ⟨rfl, ⟨rfl, ⟨rfl, trivial⟩⟩⟩) h
    · have c_3 := Classical.not_not.mp c_3
      have h := hA c_3
      clear hA hB
      refine ar_iload_n (j := 2) (q := 21) rfl rfl rfl rfl ?_
      exact ar_iret rfl rfl h
theorem r_H_rowHasStaysAlone_0 {d : Nat} {R : am_R} {I : Nat → Nat → Int32} {L : Nat → Nat → Int64}  (h : am_Run am_X0 (am_meth d) 28 R 2 [some (.ref 0), some (.int 0)] [] (am_mk I L, 0, 0)) : am_Run am_X0 (am_meth d) 28 R 0 [some (.ref 0), none] [] (am_mk I L, 0, 0) := by
  refine ar_iconst (v := 0) (q := 1) rfl rfl rfl ?_
  refine ar_istore_n (j := 1) (ls' := [some (.ref 0), some (.int 0)]) (q := 2) rfl rfl rfl rfl rfl ?_
  exact am_Run.weak (ls' := _) (by exact ⟨rfl, ⟨rfl, trivial⟩⟩) h
theorem r_H_rowHasStaysAlone_2 {d : Nat} (hd : 1 ≤ d) {R : am_R} {I : Nat → Nat → Int32} {L : Nat → Nat → Int64} {j : Nat} (h : (((nI j) < (I 95 0) → ((j < 12) ∧ ((nI j < I 95 0) ∧ (((0 ≤ (I 96 j) ∧ (I 96 j) < I 66 1 → (am_Run am_X0 (am_meth d) 28 R 2 [some (.ref 0), some (.int (nI (j + 1)))] [] (am_mk I L, 0, 0))) ∧ (¬ (0 ≤ (I 96 j) ∧ (I 96 j) < I 66 1) → (R (some (.int 0)) (am_mk I L, 0, 0)))))))) ∧ (¬ (nI j) < (I 95 0) → (R (some (.int 1)) (am_mk I L, 0, 0))))) : am_Run am_X0 (am_meth d) 28 R 2 [some (.ref 0), some (.int (nI j))] [] (am_mk I L, 0, 0) := by
  refine ar_iload_n (j := 1) (q := 3) rfl rfl rfl rfl ?_
  refine ar_aload_n (j := 0) (q := 4) rfl rfl rfl rfl ?_
  refine ar_getf (v := .ref 95) (q := 7) rfl rfl mk_0 rfl rfl ?_
  refine ar_getf (v := .int (I 95 0)) (q := 10) rfl rfl mk_95 rfl rfl ?_
  obtain ⟨hA, hB⟩ := h
  refine ar_br am_d_ge (t := 39) (q := 13) rfl rfl rfl (fun c_1 => ?_) (fun c_1 => ?_)
  · have h := hB c_1
    clear hA hB
    refine ar_iconst (v := 1) (q := 40) rfl rfl rfl ?_
    exact ar_zret rfl rfl (Or.inr rfl) h
  · have c_1 := Classical.not_not.mp c_1
    have h := hA c_1
    clear hA hB
    refine ar_aload_n (j := 0) (q := 14) rfl rfl rfl rfl ?_
    refine ar_getf (v := .ref 66) (q := 17) rfl rfl mk_0 rfl rfl ?_
    refine ar_aload_n (j := 0) (q := 18) rfl rfl rfl rfl ?_
    refine ar_getf (v := .ref 95) (q := 21) rfl rfl mk_0 rfl rfl ?_
    refine ar_iload_n (j := 1) (q := 22) rfl rfl rfl rfl ?_
    refine ar_invv (as := [.int (nI j)]) (rest := [.ref 66]) (b2 := (0, 0)) (b3 := (0, 0)) (q := 25) rfl rfl rfl rfl mk_95 rfl rfl rfl rfl rfl ?_
    obtain ⟨hp_2, h⟩ := h
    obtain ⟨hp_3, h⟩ := h
    refine ok_Ro_at_row (by omega) rfl hp_2 hp_3 ?_
    show am_Run am_X0 (am_meth d) 28 R 25 [some (.ref 0), some (.int (nI j))] [.int (I 96 j), .ref 66] (am_mk I L, 0, 0)
    refine ar_invv (as := [.int (I 96 j)]) (rest := []) (b2 := (0, 0)) (b3 := (0, 0)) (q := 28) rfl rfl rfl rfl mk_66 rfl rfl rfl rfl rfl ?_
    obtain ⟨hA, hB⟩ := h
    refine ok_St_has (by omega)  (fun c_4 => ?_) (fun c_4 => ?_)
    · have h := hA c_4
      clear hA hB
      show am_Run am_X0 (am_meth d) 28 R 28 [some (.ref 0), some (.int (nI j))] [.int 1] (am_mk I L, 0, 0)
      refine ar_b0 am_c_ne (t := 33) (q := 31) rfl rfl rfl (fun _ => ?_) (fun c9 => absurd (by decide) c9)
      refine ar_iinc (v := nI (j + 1)) (ls' := [some (.ref 0), some (.int (nI (j + 1)))]) (q := 36) rfl rfl rfl (nI_1 _) rfl rfl ?_
      refine ar_goto (t := 2) rfl rfl ?_
      exact am_Run.weak (ls' := _) (by exact ⟨rfl, ⟨rfl, trivial⟩⟩) h
    · have h := hB c_4
      clear hA hB
      show am_Run am_X0 (am_meth d) 28 R 28 [some (.ref 0), some (.int (nI j))] [.int 0] (am_mk I L, 0, 0)
      refine ar_b0 am_c_ne (t := 33) (q := 31) rfl rfl rfl (fun c9 => absurd (by decide) c9) (fun _ => ?_)
      refine ar_iconst (v := 0) (q := 32) rfl rfl rfl ?_
      exact ar_zret rfl rfl (Or.inl rfl) h
theorem r_H_rowIsOpenAndSingle_0 {d : Nat} {R : am_R} {I : Nat → Nat → Int32} {L : Nat → Nat → Int64}  (h : am_Run am_X0 (am_meth d) 29 R 2 [some (.ref 0), some (.int 0), none] [] (am_mk I L, 0, 0)) : am_Run am_X0 (am_meth d) 29 R 0 [some (.ref 0), none, none] [] (am_mk I L, 0, 0) := by
  refine ar_iconst (v := 0) (q := 1) rfl rfl rfl ?_
  refine ar_istore_n (j := 1) (ls' := [some (.ref 0), some (.int 0), none]) (q := 2) rfl rfl rfl rfl rfl ?_
  exact am_Run.weak (ls' := _) (by exact ⟨rfl, ⟨rfl, trivial⟩⟩) h
theorem r_H_rowIsOpenAndSingle_2 {d : Nat} (hd : 1 ≤ d) {R : am_R} {I : Nat → Nat → Int32} {L : Nat → Nat → Int64} {j : Nat} (h : (((nI j) < (I 95 0) → ((j < 12) ∧ ((nI j < I 95 0) ∧ (∃ j_4 : Nat, j_4 < 60 ∧ I 96 j = nI j_4 ∧ ((((I 70 j_4) = 0 → (am_meth d 90 [.ref 95, .int (I 96 j)] (am_mk I L, 0, 0) (am_ri (fun z_8 I_9 L_10 => ((z_8 < (nI j) → (R (some (.int 0)) (am_mk I_9 L_10, 0, 0))) ∧ (¬ z_8 < (nI j) → (am_Run am_X0 (am_meth d) 29 R 2 [some (.ref 0), some (.int (nI (j + 1))), none] [] (am_mk I_9 L_10, 0, 0)))))))) ∧ (¬ (I 70 j_4) = 0 → (R (some (.int 0)) (am_mk I L, 0, 0))))))))) ∧ (¬ (nI j) < (I 95 0) → (R (some (.int 1)) (am_mk I L, 0, 0))))) : am_Run am_X0 (am_meth d) 29 R 2 [some (.ref 0), some (.int (nI j)), none] [] (am_mk I L, 0, 0) := by
  refine ar_iload_n (j := 1) (q := 3) rfl rfl rfl rfl ?_
  refine ar_aload_n (j := 0) (q := 4) rfl rfl rfl rfl ?_
  refine ar_getf (v := .ref 95) (q := 7) rfl rfl mk_0 rfl rfl ?_
  refine ar_getf (v := .int (I 95 0)) (q := 10) rfl rfl mk_95 rfl rfl ?_
  obtain ⟨hA, hB⟩ := h
  refine ar_br am_d_ge (t := 54) (q := 13) rfl rfl rfl (fun c_1 => ?_) (fun c_1 => ?_)
  · have h := hB c_1
    clear hA hB
    refine ar_iconst (v := 1) (q := 55) rfl rfl rfl ?_
    exact ar_zret rfl rfl (Or.inr rfl) h
  · have c_1 := Classical.not_not.mp c_1
    have h := hA c_1
    clear hA hB
    refine ar_aload_n (j := 0) (q := 14) rfl rfl rfl rfl ?_
    refine ar_getf (v := .ref 95) (q := 17) rfl rfl mk_0 rfl rfl ?_
    refine ar_iload_n (j := 1) (q := 18) rfl rfl rfl rfl ?_
    refine ar_invv (as := [.int (nI j)]) (rest := []) (b2 := (0, 0)) (b3 := (0, 0)) (q := 21) rfl rfl rfl rfl mk_95 rfl rfl rfl rfl rfl ?_
    obtain ⟨hp_2, h⟩ := h
    obtain ⟨hp_3, h⟩ := h
    refine ok_Ro_at_row (by omega) rfl hp_2 hp_3 ?_
    show am_Run am_X0 (am_meth d) 29 R 21 [some (.ref 0), some (.int (nI j)), none] [.int (I 96 j)] (am_mk I L, 0, 0)
    refine ar_istore_n (j := 2) (ls' := [some (.ref 0), some (.int (nI j)), some (.int (I 96 j))]) (q := 22) rfl rfl rfl rfl rfl ?_
    refine ar_aload_n (j := 0) (q := 23) rfl rfl rfl rfl ?_
    refine ar_getf (v := .ref 66) (q := 26) rfl rfl mk_0 rfl rfl ?_
    refine ar_getf (v := .ref 70) (q := 29) rfl rfl mk_66 rfl rfl ?_
    refine ar_iload_n (j := 2) (q := 30) rfl rfl rfl rfl ?_
    obtain ⟨j_4, hx_5, hi_6, h⟩ := h
    refine ar_iald (v := I 70 j_4) (q := 31) rfl mk_70 (am_inE hi_6 hx_5 (by decide)) (am_clE (n := 60) hi_6 hx_5 (by decide)) rfl ?_
    obtain ⟨hA, hB⟩ := h
    refine ar_b0 am_c_ne (t := 46) (q := 34) rfl rfl rfl (fun c_7 => ?_) (fun c_7 => ?_)
    · have h := hB c_7
      clear hA hB
      refine ar_iconst (v := 0) (q := 47) rfl rfl rfl ?_
      exact ar_zret rfl rfl (Or.inl rfl) h
    · have c_7 := Classical.not_not.mp c_7
      have h := hA c_7
      clear hA hB
      refine ar_aload_n (j := 0) (q := 35) rfl rfl rfl rfl ?_
      refine ar_getf (v := .ref 95) (q := 38) rfl rfl mk_0 rfl rfl ?_
      refine ar_iload_n (j := 2) (q := 39) rfl rfl rfl rfl ?_
      refine ar_invv (as := [.int (I 96 j)]) (rest := []) (b2 := (0, 0)) (b3 := (0, 0)) (q := 42) rfl rfl rfl rfl mk_95 rfl rfl rfl rfl rfl ?_
      refine am_meth_mono d _ _ _ _ _ (fun v9 m9 h9 => ?_) h
      obtain ⟨z_8, I_9, L_10, rfl, rfl, h⟩ := h9
      show am_Run am_X0 (am_meth d) 29 R 42 [some (.ref 0), some (.int (nI j)), some (.int (I 96 j))] [.int z_8] (am_mk I_9 L_10, 0, 0)
      refine ar_iload_n (j := 1) (q := 43) rfl rfl rfl rfl ?_
      obtain ⟨hA, hB⟩ := h
      refine ar_br am_d_ge (t := 48) (q := 46) rfl rfl rfl (fun c_11 => ?_) (fun c_11 => ?_)
      · have h := hB c_11
        clear hA hB
        refine ar_iinc (v := nI (j + 1)) (ls' := [some (.ref 0), some (.int (nI (j + 1))), some (.int (I 96 j))]) (q := 51) rfl rfl rfl (nI_1 _) rfl rfl ?_
        refine ar_goto (t := 2) rfl rfl ?_
        exact am_Run.weak (ls' := _) (by exact ⟨rfl, ⟨rfl, trivial⟩⟩) h
      · have c_11 := Classical.not_not.mp c_11
        have h := hA c_11
        clear hA hB
        refine ar_iconst (v := 0) (q := 47) rfl rfl rfl ?_
        exact ar_zret rfl rfl (Or.inl rfl) h
theorem r_H_rowRefusal_0 {d : Nat} {R : am_R} {I : Nat → Nat → Int32} {L : Nat → Nat → Int64}  (h : am_meth d 28 [.ref 0] (am_mk I L, 0, 0) (am_ri (fun z_1 I_2 L_3 => ((z_1 = 0 → (R (some (.int (-1 : Int32))) (am_mk I_2 L_3, 0, 0))) ∧ (¬ z_1 = 0 → (am_meth d 29 [.ref 0] (am_mk I_2 L_3, 0, 0) (am_ri (fun z_5 I_6 L_7 => ((z_5 = 0 → (R (some (.int (-3 : Int32))) (am_mk I_6 L_7, 0, 0))) ∧ (¬ z_5 = 0 → ((((I_6 95 0) ≤ 6 → (R (some (.int 0)) (am_mk I_6 L_7, 0, 0))) ∧ (¬ (I_6 95 0) ≤ 6 → (R (some (.int (-6 : Int32))) (am_mk I_6 L_7, 0, 0))))))))))))))) : am_Run am_X0 (am_meth d) 32 R 0 [some (.ref 0)] [] (am_mk I L, 0, 0) := by
  refine ar_aload_n (j := 0) (q := 1) rfl rfl rfl rfl ?_
  refine ar_invv (as := []) (rest := []) (b2 := (0, 0)) (b3 := (0, 0)) (q := 4) rfl rfl rfl rfl mk_0 rfl rfl rfl rfl rfl ?_
  refine am_meth_mono d _ _ _ _ _ (fun v9 m9 h9 => ?_) h
  obtain ⟨z_1, I_2, L_3, rfl, rfl, h⟩ := h9
  show am_Run am_X0 (am_meth d) 32 R 4 [some (.ref 0)] [.int z_1] (am_mk I_2 L_3, 0, 0)
  obtain ⟨hA, hB⟩ := h
  refine ar_b0 am_c_ne (t := 9) (q := 7) rfl rfl rfl (fun c_4 => ?_) (fun c_4 => ?_)
  · have h := hB c_4
    clear hA hB
    refine ar_aload_n (j := 0) (q := 10) rfl rfl rfl rfl ?_
    refine ar_invv (as := []) (rest := []) (b2 := (0, 0)) (b3 := (0, 0)) (q := 13) rfl rfl rfl rfl mk_0 rfl rfl rfl rfl rfl ?_
    refine am_meth_mono d _ _ _ _ _ (fun v9 m9 h9 => ?_) h
    obtain ⟨z_5, I_6, L_7, rfl, rfl, h⟩ := h9
    show am_Run am_X0 (am_meth d) 32 R 13 [some (.ref 0)] [.int z_5] (am_mk I_6 L_7, 0, 0)
    obtain ⟨hA, hB⟩ := h
    refine ar_b0 am_c_ne (t := 19) (q := 16) rfl rfl rfl (fun c_8 => ?_) (fun c_8 => ?_)
    · have h := hB c_8
      clear hA hB
      refine ar_aload_n (j := 0) (q := 20) rfl rfl rfl rfl ?_
      refine ar_getf (v := .ref 95) (q := 23) rfl rfl mk_0 rfl rfl ?_
      refine ar_getf (v := .int (I_6 95 0)) (q := 26) rfl rfl mk_95 rfl rfl ?_
      refine ar_bipush (v := 6) (q := 28) rfl rfl rfl ?_
      obtain ⟨hA, hB⟩ := h
      refine ar_br am_c_le (t := 36) (q := 31) rfl rfl rfl (fun c_9 => ?_) (fun c_9 => ?_)
      · have h := hA c_9
        clear hA hB
        refine ar_iconst (v := 0) (q := 37) rfl rfl rfl ?_
        exact ar_iret rfl rfl h
      · have h := hB c_9
        clear hA hB
        refine ar_bipush (v := (-6 : Int32)) (q := 33) rfl rfl rfl ?_
        refine ar_goto (t := 37) rfl rfl ?_
        exact ar_iret rfl rfl h
    · have c_8 := Classical.not_not.mp c_8
      have h := hA c_8
      clear hA hB
      refine ar_bipush (v := (-3 : Int32)) (q := 18) rfl rfl rfl ?_
      exact ar_iret rfl rfl h
  · have c_4 := Classical.not_not.mp c_4
    have h := hA c_4
    clear hA hB
    refine ar_iconst (v := (-1 : Int32)) (q := 8) rfl rfl rfl ?_
    exact ar_iret rfl rfl h
theorem r_M_isAllStays_0 {d : Nat} {R : am_R} {I : Nat → Nat → Int32} {L : Nat → Nat → Int64}  (h : am_Run am_X0 (am_meth d) 208 R 2 [some (.ref 113), some (.int 0)] [] (am_mk I L, 0, 0)) : am_Run am_X0 (am_meth d) 208 R 0 [some (.ref 113), none] [] (am_mk I L, 0, 0) := by
  refine ar_iconst (v := 0) (q := 1) rfl rfl rfl ?_
  refine ar_istore_n (j := 1) (ls' := [some (.ref 113), some (.int 0)]) (q := 2) rfl rfl rfl rfl rfl ?_
  exact am_Run.weak (ls' := _) (by exact ⟨rfl, ⟨rfl, trivial⟩⟩) h
theorem r_M_isAllStays_2 {d : Nat} (hd : 1 ≤ d) {R : am_R} {I : Nat → Nat → Int32} {L : Nat → Nat → Int64} {j : Nat} (h : (((nI j) < (I 113 39) → (j < 12 ∧ (((0 ≤ (I 146 j) ∧ (I 146 j) < I 113 14 → (am_Run am_X0 (am_meth d) 208 R 2 [some (.ref 113), some (.int (nI (j + 1)))] [] (am_mk I L, 0, 0))) ∧ (¬ (0 ≤ (I 146 j) ∧ (I 146 j) < I 113 14) → (R (some (.int 0)) (am_mk I L, 0, 0))))))) ∧ (¬ (nI j) < (I 113 39) → (R (some (.int 1)) (am_mk I L, 0, 0))))) : am_Run am_X0 (am_meth d) 208 R 2 [some (.ref 113), some (.int (nI j))] [] (am_mk I L, 0, 0) := by
  refine ar_iload_n (j := 1) (q := 3) rfl rfl rfl rfl ?_
  refine ar_aload_n (j := 0) (q := 4) rfl rfl rfl rfl ?_
  refine ar_getf (v := .int (I 113 39)) (q := 7) rfl rfl mk_113 rfl rfl ?_
  obtain ⟨hA, hB⟩ := h
  refine ar_br am_d_ge (t := 31) (q := 10) rfl rfl rfl (fun c_1 => ?_) (fun c_1 => ?_)
  · have h := hB c_1
    clear hA hB
    refine ar_iconst (v := 1) (q := 32) rfl rfl rfl ?_
    exact ar_zret rfl rfl (Or.inr rfl) h
  · have c_1 := Classical.not_not.mp c_1
    have h := hA c_1
    clear hA hB
    refine ar_aload_n (j := 0) (q := 11) rfl rfl rfl rfl ?_
    refine ar_aload_n (j := 0) (q := 12) rfl rfl rfl rfl ?_
    refine ar_getf (v := .ref 146) (q := 15) rfl rfl mk_113 rfl rfl ?_
    refine ar_iload_n (j := 1) (q := 16) rfl rfl rfl rfl ?_
    obtain ⟨hx_2, h⟩ := h
    refine ar_iald (v := I 146 j) (q := 17) rfl mk_146 (am_inE rfl hx_2 (by decide)) (am_clE (n := 12) rfl hx_2 (by decide)) rfl ?_
    refine ar_invv (as := [.int (I 146 j)]) (rest := []) (b2 := (0, 0)) (b3 := (0, 0)) (q := 20) rfl rfl rfl rfl mk_113 rfl rfl rfl rfl rfl ?_
    obtain ⟨hA, hB⟩ := h
    refine ok_M_isStay (by omega)  (fun c_3 => ?_) (fun c_3 => ?_)
    · have h := hA c_3
      clear hA hB
      show am_Run am_X0 (am_meth d) 208 R 20 [some (.ref 113), some (.int (nI j))] [.int 1] (am_mk I L, 0, 0)
      refine ar_b0 am_c_ne (t := 25) (q := 23) rfl rfl rfl (fun _ => ?_) (fun c9 => absurd (by decide) c9)
      refine ar_iinc (v := nI (j + 1)) (ls' := [some (.ref 113), some (.int (nI (j + 1)))]) (q := 28) rfl rfl rfl (nI_1 _) rfl rfl ?_
      refine ar_goto (t := 2) rfl rfl ?_
      exact am_Run.weak (ls' := _) (by exact ⟨rfl, ⟨rfl, trivial⟩⟩) h
    · have h := hB c_3
      clear hA hB
      show am_Run am_X0 (am_meth d) 208 R 20 [some (.ref 113), some (.int (nI j))] [.int 0] (am_mk I L, 0, 0)
      refine ar_b0 am_c_ne (t := 25) (q := 23) rfl rfl rfl (fun c9 => absurd (by decide) c9) (fun _ => ?_)
      refine ar_iconst (v := 0) (q := 24) rfl rfl rfl ?_
      exact ar_zret rfl rfl (Or.inl rfl) h
theorem r_M_isOpenOnce_0 {d : Nat} {R : am_R} {I : Nat → Nat → Int32} {L : Nat → Nat → Int64}  (h : am_Run am_X0 (am_meth d) 209 R 2 [some (.ref 113), some (.int 0), none] [] (am_mk I L, 0, 0)) : am_Run am_X0 (am_meth d) 209 R 0 [some (.ref 113), none, none] [] (am_mk I L, 0, 0) := by
  refine ar_iconst (v := 0) (q := 1) rfl rfl rfl ?_
  refine ar_istore_n (j := 1) (ls' := [some (.ref 113), some (.int 0), none]) (q := 2) rfl rfl rfl rfl rfl ?_
  exact am_Run.weak (ls' := _) (by exact ⟨rfl, ⟨rfl, trivial⟩⟩) h
theorem r_M_isOpenOnce_2 {d : Nat} {R : am_R} {I : Nat → Nat → Int32} {L : Nat → Nat → Int64} {j : Nat} (h : (((nI j) < (I 113 39) → (j < 12 ∧ (∃ j_3 : Nat, j_3 < 60 ∧ I 146 j = nI j_3 ∧ ((((I 128 j_3) = 0 → (am_Run am_X0 (am_meth d) 209 R 28 [some (.ref 113), some (.int (nI j)), some (.int 0)] [] (am_mk I L, 0, 0))) ∧ (¬ (I 128 j_3) = 0 → (R (some (.int 0)) (am_mk I L, 0, 0)))))))) ∧ (¬ (nI j) < (I 113 39) → (R (some (.int 1)) (am_mk I L, 0, 0))))) : am_Run am_X0 (am_meth d) 209 R 2 [some (.ref 113), some (.int (nI j)), none] [] (am_mk I L, 0, 0) := by
  refine ar_iload_n (j := 1) (q := 3) rfl rfl rfl rfl ?_
  refine ar_aload_n (j := 0) (q := 4) rfl rfl rfl rfl ?_
  refine ar_getf (v := .int (I 113 39)) (q := 7) rfl rfl mk_113 rfl rfl ?_
  obtain ⟨hA, hB⟩ := h
  refine ar_br am_d_ge (t := 62) (q := 10) rfl rfl rfl (fun c_1 => ?_) (fun c_1 => ?_)
  · have h := hB c_1
    clear hA hB
    refine ar_iconst (v := 1) (q := 63) rfl rfl rfl ?_
    exact ar_zret rfl rfl (Or.inr rfl) h
  · have c_1 := Classical.not_not.mp c_1
    have h := hA c_1
    clear hA hB
    refine ar_aload_n (j := 0) (q := 11) rfl rfl rfl rfl ?_
    refine ar_getf (v := .ref 128) (q := 14) rfl rfl mk_113 rfl rfl ?_
    refine ar_aload_n (j := 0) (q := 15) rfl rfl rfl rfl ?_
    refine ar_getf (v := .ref 146) (q := 18) rfl rfl mk_113 rfl rfl ?_
    refine ar_iload_n (j := 1) (q := 19) rfl rfl rfl rfl ?_
    obtain ⟨hx_2, h⟩ := h
    refine ar_iald (v := I 146 j) (q := 20) rfl mk_146 (am_inE rfl hx_2 (by decide)) (am_clE (n := 12) rfl hx_2 (by decide)) rfl ?_
    obtain ⟨j_3, hx_4, hi_5, h⟩ := h
    refine ar_iald (v := I 128 j_3) (q := 21) rfl mk_128 (am_inE hi_5 hx_4 (by decide)) (am_clE (n := 60) hi_5 hx_4 (by decide)) rfl ?_
    obtain ⟨hA, hB⟩ := h
    refine ar_b0 am_c_eq (t := 26) (q := 24) rfl rfl rfl (fun c_6 => ?_) (fun c_6 => ?_)
    · have h := hA c_6
      clear hA hB
      refine ar_iconst (v := 0) (q := 27) rfl rfl rfl ?_
      refine ar_istore_n (j := 2) (ls' := [some (.ref 113), some (.int (nI j)), some (.int 0)]) (q := 28) rfl rfl rfl rfl rfl ?_
      exact am_Run.weak (ls' := _) (by exact ⟨rfl, ⟨rfl, ⟨rfl, trivial⟩⟩⟩) h
    · have h := hB c_6
      clear hA hB
      refine ar_iconst (v := 0) (q := 25) rfl rfl rfl ?_
      exact ar_zret rfl rfl (Or.inl rfl) h
theorem r_M_isOpenOnce_28 {d : Nat} {R : am_R} {I : Nat → Nat → Int32} {L : Nat → Nat → Int64} {j : Nat} {m : Nat} (h : (((nI m) < (nI j) → (m < 12 ∧ (j < 12 ∧ ((((I 146 m) = (I 146 j) → (R (some (.int 0)) (am_mk I L, 0, 0))) ∧ (¬ (I 146 m) = (I 146 j) → (am_Run am_X0 (am_meth d) 209 R 28 [some (.ref 113), some (.int (nI j)), some (.int (nI (m + 1)))] [] (am_mk I L, 0, 0)))))))) ∧ (¬ (nI m) < (nI j) → (am_Run am_X0 (am_meth d) 209 R 2 [some (.ref 113), some (.int (nI (j + 1))), none] [] (am_mk I L, 0, 0))))) : am_Run am_X0 (am_meth d) 209 R 28 [some (.ref 113), some (.int (nI j)), some (.int (nI m))] [] (am_mk I L, 0, 0) := by
  refine ar_iload_n (j := 2) (q := 29) rfl rfl rfl rfl ?_
  refine ar_iload_n (j := 1) (q := 30) rfl rfl rfl rfl ?_
  obtain ⟨hA, hB⟩ := h
  refine ar_br am_d_ge (t := 56) (q := 33) rfl rfl rfl (fun c_1 => ?_) (fun c_1 => ?_)
  · have h := hB c_1
    clear hA hB
    refine ar_iinc (v := nI (j + 1)) (ls' := [some (.ref 113), some (.int (nI (j + 1))), some (.int (nI m))]) (q := 59) rfl rfl rfl (nI_1 _) rfl rfl ?_
    refine ar_goto (t := 2) rfl rfl ?_
    exact am_Run.weak (ls' := _) (by exact ⟨rfl, ⟨rfl, trivial⟩⟩) h
  · have c_1 := Classical.not_not.mp c_1
    have h := hA c_1
    clear hA hB
    refine ar_aload_n (j := 0) (q := 34) rfl rfl rfl rfl ?_
    refine ar_getf (v := .ref 146) (q := 37) rfl rfl mk_113 rfl rfl ?_
    refine ar_iload_n (j := 2) (q := 38) rfl rfl rfl rfl ?_
    obtain ⟨hx_2, h⟩ := h
    refine ar_iald (v := I 146 m) (q := 39) rfl mk_146 (am_inE rfl hx_2 (by decide)) (am_clE (n := 12) rfl hx_2 (by decide)) rfl ?_
    refine ar_aload_n (j := 0) (q := 40) rfl rfl rfl rfl ?_
    refine ar_getf (v := .ref 146) (q := 43) rfl rfl mk_113 rfl rfl ?_
    refine ar_iload_n (j := 1) (q := 44) rfl rfl rfl rfl ?_
    obtain ⟨hx_3, h⟩ := h
    refine ar_iald (v := I 146 j) (q := 45) rfl mk_146 (am_inE rfl hx_3 (by decide)) (am_clE (n := 12) rfl hx_3 (by decide)) rfl ?_
    obtain ⟨hA, hB⟩ := h
    refine ar_br am_c_ne (t := 50) (q := 48) rfl rfl rfl (fun c_4 => ?_) (fun c_4 => ?_)
    · have h := hB c_4
      clear hA hB
      refine ar_iinc (v := nI (m + 1)) (ls' := [some (.ref 113), some (.int (nI j)), some (.int (nI (m + 1)))]) (q := 53) rfl rfl rfl (nI_1 _) rfl rfl ?_
      refine ar_goto (t := 28) rfl rfl ?_
      exact am_Run.weak (ls' := _) (by exact ⟨rfl, ⟨rfl, ⟨rfl, trivial⟩⟩⟩) h
    · have c_4 := Classical.not_not.mp c_4
      have h := hA c_4
      clear hA hB
      refine ar_iconst (v := 0) (q := 49) rfl rfl rfl ?_
      exact ar_zret rfl rfl (Or.inl rfl) h
theorem r_M_bars_0 {d : Nat} {R : am_R} {I : Nat → Nat → Int32} {L : Nat → Nat → Int64}  (h : am_meth d 208 [.ref 113] (am_mk I L, 0, 0) (am_ri (fun z_1 I_2 L_3 => ((z_1 = 0 → (R (some (.int (-1 : Int32))) (am_mk I_2 L_3, 0, 0))) ∧ (¬ z_1 = 0 → (am_meth d 209 [.ref 113] (am_mk I_2 L_3, 0, 0) (am_ri (fun z_5 I_6 L_7 => ((z_5 = 0 → (R (some (.int (-3 : Int32))) (am_mk I_6 L_7, 0, 0))) ∧ (¬ z_5 = 0 → ((((I_6 113 39) ≤ 6 → (R (some (.int 0)) (am_mk I_6 L_7, 0, 0))) ∧ (¬ (I_6 113 39) ≤ 6 → (R (some (.int (-6 : Int32))) (am_mk I_6 L_7, 0, 0))))))))))))))) : am_Run am_X0 (am_meth d) 215 R 0 [some (.ref 113)] [] (am_mk I L, 0, 0) := by
  refine ar_aload_n (j := 0) (q := 1) rfl rfl rfl rfl ?_
  refine ar_invv (as := []) (rest := []) (b2 := (0, 0)) (b3 := (0, 0)) (q := 4) rfl rfl rfl rfl mk_113 rfl rfl rfl rfl rfl ?_
  refine am_meth_mono d _ _ _ _ _ (fun v9 m9 h9 => ?_) h
  obtain ⟨z_1, I_2, L_3, rfl, rfl, h⟩ := h9
  show am_Run am_X0 (am_meth d) 215 R 4 [some (.ref 113)] [.int z_1] (am_mk I_2 L_3, 0, 0)
  obtain ⟨hA, hB⟩ := h
  refine ar_b0 am_c_ne (t := 9) (q := 7) rfl rfl rfl (fun c_4 => ?_) (fun c_4 => ?_)
  · have h := hB c_4
    clear hA hB
    refine ar_aload_n (j := 0) (q := 10) rfl rfl rfl rfl ?_
    refine ar_invv (as := []) (rest := []) (b2 := (0, 0)) (b3 := (0, 0)) (q := 13) rfl rfl rfl rfl mk_113 rfl rfl rfl rfl rfl ?_
    refine am_meth_mono d _ _ _ _ _ (fun v9 m9 h9 => ?_) h
    obtain ⟨z_5, I_6, L_7, rfl, rfl, h⟩ := h9
    show am_Run am_X0 (am_meth d) 215 R 13 [some (.ref 113)] [.int z_5] (am_mk I_6 L_7, 0, 0)
    obtain ⟨hA, hB⟩ := h
    refine ar_b0 am_c_ne (t := 19) (q := 16) rfl rfl rfl (fun c_8 => ?_) (fun c_8 => ?_)
    · have h := hB c_8
      clear hA hB
      refine ar_aload_n (j := 0) (q := 20) rfl rfl rfl rfl ?_
      refine ar_getf (v := .int (I_6 113 39)) (q := 23) rfl rfl mk_113 rfl rfl ?_
      refine ar_bipush (v := 6) (q := 25) rfl rfl rfl ?_
      obtain ⟨hA, hB⟩ := h
      refine ar_br am_c_le (t := 33) (q := 28) rfl rfl rfl (fun c_9 => ?_) (fun c_9 => ?_)
      · have h := hA c_9
        clear hA hB
        refine ar_iconst (v := 0) (q := 34) rfl rfl rfl ?_
        exact ar_iret rfl rfl h
      · have h := hB c_9
        clear hA hB
        refine ar_bipush (v := (-6 : Int32)) (q := 30) rfl rfl rfl ?_
        refine ar_goto (t := 34) rfl rfl ?_
        exact ar_iret rfl rfl h
    · have c_8 := Classical.not_not.mp c_8
      have h := hA c_8
      clear hA hB
      refine ar_bipush (v := (-3 : Int32)) (q := 18) rfl rfl rfl ?_
      exact ar_iret rfl rfl h
  · have c_4 := Classical.not_not.mp c_4
    have h := hA c_4
    clear hA hB
    refine ar_iconst (v := (-1 : Int32)) (q := 8) rfl rfl rfl ?_
    exact ar_iret rfl rfl h
theorem r_Chain_find_0 {d : Nat} {R : am_R} {I : Nat → Nat → Int32} {L : Nat → Nat → Int64} {k : Nat} (h : ∀ I_1 : Nat → Nat → Int32, I_1 = va_up I 102 (upd (I 102) 7 0) → (am_Run am_X0 (am_meth d) 44 R 7 [some (.ref 102), some (.int (nI k)), some (.ref 95), some (.int 0)] [] (am_mk I_1 L, 0, 0))) : am_Run am_X0 (am_meth d) 44 R 0 [some (.ref 102), some (.int (nI k)), some (.ref 95), none] [] (am_mk I L, 0, 0) := by
  refine ar_aload_n (j := 0) (q := 1) rfl rfl rfl rfl ?_
  refine ar_iconst (v := 0) (q := 2) rfl rfl rfl ?_
  obtain ⟨I_1, hI_2⟩ : ∃ z : Nat → Nat → Int32, z = va_up I 102 (upd (I 102) 7 0) := ⟨_, rfl⟩
  have h := h I_1 hI_2
  refine ar_putf (hp2 := am_mk I_1 L) (q := 5) rfl rfl mk_102 rfl (by rw [hI_2]; exact mk_p102_7) rfl ?_
  refine ar_iconst (v := 0) (q := 6) rfl rfl rfl ?_
  refine ar_istore_n (j := 3) (ls' := [some (.ref 102), some (.int (nI k)), some (.ref 95), some (.int 0)]) (q := 7) rfl rfl rfl rfl rfl ?_
  exact am_Run.weak (ls' := _) (by exact ⟨rfl, ⟨rfl, ⟨rfl, ⟨rfl, trivial⟩⟩⟩⟩) h
theorem r_Chain_find_7 {d : Nat} (hd : 1 ≤ d) {R : am_R} {I : Nat → Nat → Int32} {L : Nat → Nat → Int64} {k : Nat} {j : Nat} (h : (((nI j) < (I 95 0) → ((((nI j) < 10 → ((j < 12) ∧ ((nI j < I 95 0) ∧ (am_meth d 111 [.ref 99, .int (nI k), .int (I 96 j)] (am_mk I L, 0, 0) (am_ri (fun z_5 I_6 L_7 => ((z_5 = 0 → (am_Run am_X0 (am_meth d) 44 R 7 [some (.ref 102), some (.int (nI k)), some (.ref 95), some (.int (nI (j + 1)))] [] (am_mk I_6 L_7, 0, 0))) ∧ (¬ z_5 = 0 → ((j < 12) ∧ ((nI j < I_6 95 0) ∧ (am_meth d 45 [.ref 102, .int (I_6 96 j), .int (1 <<< ((nI j) &&& 31))] (am_mk I_6 L_7, 0, 0) (am_rv (fun I_11 L_12 => am_Run am_X0 (am_meth d) 44 R 7 [some (.ref 102), some (.int (nI k)), some (.ref 95), some (.int (nI (j + 1)))] [] (am_mk I_11 L_12, 0, 0)))))))))))))) ∧ (¬ (nI j) < 10 → (∃ j_13 : Nat, j_13 < 11 ∧ I 102 7 = nI j_13 ∧ (∀ I_16 : Nat → Nat → Int32, I_16 = va_up I 105 (upd (I 105) j_13 0) → (am_Run am_X0 (am_meth d) 44 R 72 [some (.ref 102), some (.int (nI k)), none, some (.int ((I_16 102 7) - 1))] [] (am_mk I_16 L, 0, 0)))))))) ∧ (¬ (nI j) < (I 95 0) → (∃ j_18 : Nat, j_18 < 11 ∧ I 102 7 = nI j_18 ∧ (∀ I_21 : Nat → Nat → Int32, I_21 = va_up I 105 (upd (I 105) j_18 0) → (am_Run am_X0 (am_meth d) 44 R 72 [some (.ref 102), some (.int (nI k)), none, some (.int ((I_21 102 7) - 1))] [] (am_mk I_21 L, 0, 0))))))) : am_Run am_X0 (am_meth d) 44 R 7 [some (.ref 102), some (.int (nI k)), some (.ref 95), some (.int (nI j))] [] (am_mk I L, 0, 0) := by
  refine ar_iload_n (j := 3) (q := 8) rfl rfl rfl rfl ?_
  refine ar_aload_n (j := 2) (q := 9) rfl rfl rfl rfl ?_
  refine ar_getf (v := .int (I 95 0)) (q := 12) rfl rfl mk_95 rfl rfl ?_
  obtain ⟨hA, hB⟩ := h
  refine ar_br am_d_ge (t := 55) (q := 15) rfl rfl rfl (fun c_1 => ?_) (fun c_1 => ?_)
  · have h := hB c_1
    clear hA hB
    refine ar_aload_n (j := 0) (q := 56) rfl rfl rfl rfl ?_
    refine ar_getf (v := .ref 105) (q := 59) rfl rfl mk_102 rfl rfl ?_
    refine ar_aload_n (j := 0) (q := 60) rfl rfl rfl rfl ?_
    refine ar_getf (v := .int (I 102 7)) (q := 63) rfl rfl mk_102 rfl rfl ?_
    refine ar_iconst (v := 0) (q := 64) rfl rfl rfl ?_
    obtain ⟨j_18, hx_19, hi_20, h⟩ := h
    obtain ⟨I_21, hI_22⟩ : ∃ z : Nat → Nat → Int32, z = va_up I 105 (upd (I 105) j_18 0) := ⟨_, rfl⟩
    have h := h I_21 hI_22
    refine ar_iast (hp2 := am_mk I_21 L) (q := 65) rfl mk_105 (am_inE hi_20 hx_19 (by decide)) (by rw [am_clT (n := 11) hi_20 hx_19 (by decide), hI_22]; exact mk_s105) rfl ?_
    refine ar_aload_n (j := 0) (q := 66) rfl rfl rfl rfl ?_
    refine ar_getf (v := .int (I_21 102 7)) (q := 69) rfl rfl mk_102 rfl rfl ?_
    refine ar_iconst (v := 1) (q := 70) rfl rfl rfl ?_
    refine ar_ib (i := .isub) (z := (I_21 102 7) - 1) (q := 71) rfl rfl rfl rfl rfl ?_
    refine ar_istore_n (j := 3) (ls' := [some (.ref 102), some (.int (nI k)), some (.ref 95), some (.int ((I_21 102 7) - 1))]) (q := 72) rfl rfl rfl rfl rfl ?_
    exact am_Run.weak (ls' := _) (by exact ⟨rfl, ⟨rfl, ⟨rfl, trivial⟩⟩⟩) h
  · have c_1 := Classical.not_not.mp c_1
    have h := hA c_1
    clear hA hB
    refine ar_iload_n (j := 3) (q := 16) rfl rfl rfl rfl ?_
    refine ar_bipush (v := 10) (q := 18) rfl rfl rfl ?_
    obtain ⟨hA, hB⟩ := h
    refine ar_br am_d_ge (t := 55) (q := 21) rfl rfl rfl (fun c_2 => ?_) (fun c_2 => ?_)
    · have h := hB c_2
      clear hA hB
      refine ar_aload_n (j := 0) (q := 56) rfl rfl rfl rfl ?_
      refine ar_getf (v := .ref 105) (q := 59) rfl rfl mk_102 rfl rfl ?_
      refine ar_aload_n (j := 0) (q := 60) rfl rfl rfl rfl ?_
      refine ar_getf (v := .int (I 102 7)) (q := 63) rfl rfl mk_102 rfl rfl ?_
      refine ar_iconst (v := 0) (q := 64) rfl rfl rfl ?_
      obtain ⟨j_13, hx_14, hi_15, h⟩ := h
      obtain ⟨I_16, hI_17⟩ : ∃ z : Nat → Nat → Int32, z = va_up I 105 (upd (I 105) j_13 0) := ⟨_, rfl⟩
      have h := h I_16 hI_17
      refine ar_iast (hp2 := am_mk I_16 L) (q := 65) rfl mk_105 (am_inE hi_15 hx_14 (by decide)) (by rw [am_clT (n := 11) hi_15 hx_14 (by decide), hI_17]; exact mk_s105) rfl ?_
      refine ar_aload_n (j := 0) (q := 66) rfl rfl rfl rfl ?_
      refine ar_getf (v := .int (I_16 102 7)) (q := 69) rfl rfl mk_102 rfl rfl ?_
      refine ar_iconst (v := 1) (q := 70) rfl rfl rfl ?_
      refine ar_ib (i := .isub) (z := (I_16 102 7) - 1) (q := 71) rfl rfl rfl rfl rfl ?_
      refine ar_istore_n (j := 3) (ls' := [some (.ref 102), some (.int (nI k)), some (.ref 95), some (.int ((I_16 102 7) - 1))]) (q := 72) rfl rfl rfl rfl rfl ?_
      exact am_Run.weak (ls' := _) (by exact ⟨rfl, ⟨rfl, ⟨rfl, trivial⟩⟩⟩) h
    · have c_2 := Classical.not_not.mp c_2
      have h := hA c_2
      clear hA hB
      refine ar_aload_n (j := 0) (q := 22) rfl rfl rfl rfl ?_
      refine ar_getf (v := .ref 99) (q := 25) rfl rfl mk_102 rfl rfl ?_
      refine ar_iload_n (j := 1) (q := 26) rfl rfl rfl rfl ?_
      refine ar_aload_n (j := 2) (q := 27) rfl rfl rfl rfl ?_
      refine ar_iload_n (j := 3) (q := 28) rfl rfl rfl rfl ?_
      refine ar_invv (as := [.int (nI j)]) (rest := [.int (nI k), .ref 99]) (b2 := (0, 0)) (b3 := (0, 0)) (q := 31) rfl rfl rfl rfl mk_95 rfl rfl rfl rfl rfl ?_
      obtain ⟨hp_3, h⟩ := h
      obtain ⟨hp_4, h⟩ := h
      refine ok_Ro_at_row (by omega) rfl hp_3 hp_4 ?_
      show am_Run am_X0 (am_meth d) 44 R 31 [some (.ref 102), some (.int (nI k)), some (.ref 95), some (.int (nI j))] [.int (I 96 j), .int (nI k), .ref 99] (am_mk I L, 0, 0)
      refine ar_invv (as := [.int (nI k), .int (I 96 j)]) (rest := []) (b2 := (0, 0)) (b3 := (0, 0)) (q := 34) rfl rfl rfl rfl mk_99 rfl rfl rfl rfl rfl ?_
      refine am_meth_mono d _ _ _ _ _ (fun v9 m9 h9 => ?_) h
      obtain ⟨z_5, I_6, L_7, rfl, rfl, h⟩ := h9
      show am_Run am_X0 (am_meth d) 44 R 34 [some (.ref 102), some (.int (nI k)), some (.ref 95), some (.int (nI j))] [.int z_5] (am_mk I_6 L_7, 0, 0)
      obtain ⟨hA, hB⟩ := h
      refine ar_b0 am_c_eq (t := 49) (q := 37) rfl rfl rfl (fun c_8 => ?_) (fun c_8 => ?_)
      · have h := hA c_8
        clear hA hB
        refine ar_iinc (v := nI (j + 1)) (ls' := [some (.ref 102), some (.int (nI k)), some (.ref 95), some (.int (nI (j + 1)))]) (q := 52) rfl rfl rfl (nI_1 _) rfl rfl ?_
        refine ar_goto (t := 7) rfl rfl ?_
        exact am_Run.weak (ls' := _) (by exact ⟨rfl, ⟨rfl, ⟨rfl, ⟨rfl, trivial⟩⟩⟩⟩) h
      · have h := hB c_8
        clear hA hB
        refine ar_aload_n (j := 0) (q := 38) rfl rfl rfl rfl ?_
        refine ar_aload_n (j := 2) (q := 39) rfl rfl rfl rfl ?_
        refine ar_iload_n (j := 3) (q := 40) rfl rfl rfl rfl ?_
        refine ar_invv (as := [.int (nI j)]) (rest := [.ref 102]) (b2 := (0, 0)) (b3 := (0, 0)) (q := 43) rfl rfl rfl rfl mk_95 rfl rfl rfl rfl rfl ?_
        obtain ⟨hp_9, h⟩ := h
        obtain ⟨hp_10, h⟩ := h
        refine ok_Ro_at_row (by omega) rfl hp_9 hp_10 ?_
        show am_Run am_X0 (am_meth d) 44 R 43 [some (.ref 102), some (.int (nI k)), some (.ref 95), some (.int (nI j))] [.int (I_6 96 j), .ref 102] (am_mk I_6 L_7, 0, 0)
        refine ar_iconst (v := 1) (q := 44) rfl rfl rfl ?_
        refine ar_iload_n (j := 3) (q := 45) rfl rfl rfl rfl ?_
        refine ar_ib (i := .ishl) (z := 1 <<< ((nI j) &&& 31)) (q := 46) rfl rfl rfl rfl rfl ?_
        refine ar_invv (as := [.int (I_6 96 j), .int (1 <<< ((nI j) &&& 31))]) (rest := []) (b2 := (0, 0)) (b3 := (0, 0)) (q := 49) rfl rfl rfl rfl mk_102 rfl rfl rfl rfl rfl ?_
        refine am_meth_mono d _ _ _ _ _ (fun v9 m9 h9 => ?_) h
        obtain ⟨I_11, L_12, rfl, rfl, h⟩ := h9
        show am_Run am_X0 (am_meth d) 44 R 49 [some (.ref 102), some (.int (nI k)), some (.ref 95), some (.int (nI j))] [] (am_mk I_11 L_12, 0, 0)
        refine ar_iinc (v := nI (j + 1)) (ls' := [some (.ref 102), some (.int (nI k)), some (.ref 95), some (.int (nI (j + 1)))]) (q := 52) rfl rfl rfl (nI_1 _) rfl rfl ?_
        refine ar_goto (t := 7) rfl rfl ?_
        exact am_Run.weak (ls' := _) (by exact ⟨rfl, ⟨rfl, ⟨rfl, ⟨rfl, trivial⟩⟩⟩⟩) h
theorem r_Chain_find_72 {d : Nat} (hd : 1 ≤ d) {R : am_R} {I : Nat → Nat → Int32} {L : Nat → Nat → Int64} {k : Nat} {a : Int32} (h : ((a < 0 → (∀ I_2 : Nat → Nat → Int32, I_2 = va_up I 102 (upd (I 102) 0 0) → (∀ I_4 : Nat → Nat → Int32, I_4 = va_up I_2 102 (upd (I_2 102) 1 0) → (am_meth d 93 [.ref 99, .int (nI k)] (am_mk I_4 L, 0, 0) (am_rv (fun I_6 L_7 => am_meth d 46 [.ref 102, .int (nI k), .int 0, .int 0, .int 0] (am_mk I_6 L_7, 0, 0) (am_rv (fun I_8 L_9 => R none (am_mk I_8 L_9, 0, 0))))))))) ∧ (¬ a < 0 → (∃ j_10 : Nat, j_10 < 11 ∧ a + 1 = nI j_10 ∧ (∃ j_13 : Nat, j_13 < 10 ∧ a = nI j_13 ∧ (∃ j_16 : Nat, I 103 j_13 = nI j_16 ∧ ((j_16 < 60) ∧ (∀ I_19 : Nat → Nat → Int32, I_19 = va_up I 105 (upd (I 105) j_13 ((I 105 j_10) + (I 69 j_16 - I 68 j_16 + 1))) → (am_Run am_X0 (am_meth d) 44 R 72 [some (.ref 102), some (.int (nI k)), none, some (.int (a + (-1)))] [] (am_mk I_19 L, 0, 0)))))))))) : am_Run am_X0 (am_meth d) 44 R 72 [some (.ref 102), some (.int (nI k)), none, some (.int a)] [] (am_mk I L, 0, 0) := by
  refine ar_iload_n (j := 3) (q := 73) rfl rfl rfl rfl ?_
  obtain ⟨hA, hB⟩ := h
  refine ar_b0 am_c_lt (t := 110) (q := 76) rfl rfl rfl (fun c_1 => ?_) (fun c_1 => ?_)
  · have h := hA c_1
    clear hA hB
    refine ar_aload_n (j := 0) (q := 111) rfl rfl rfl rfl ?_
    refine ar_iconst (v := 0) (q := 112) rfl rfl rfl ?_
    obtain ⟨I_2, hI_3⟩ : ∃ z : Nat → Nat → Int32, z = va_up I 102 (upd (I 102) 0 0) := ⟨_, rfl⟩
    have h := h I_2 hI_3
    refine ar_putf (hp2 := am_mk I_2 L) (q := 115) rfl rfl mk_102 rfl (by rw [hI_3]; exact mk_p102_0) rfl ?_
    refine ar_aload_n (j := 0) (q := 116) rfl rfl rfl rfl ?_
    refine ar_iconst (v := 0) (q := 117) rfl rfl rfl ?_
    obtain ⟨I_4, hI_5⟩ : ∃ z : Nat → Nat → Int32, z = va_up I_2 102 (upd (I_2 102) 1 0) := ⟨_, rfl⟩
    have h := h I_4 hI_5
    refine ar_putf (hp2 := am_mk I_4 L) (q := 120) rfl rfl mk_102 rfl (by rw [hI_5]; exact mk_p102_1) rfl ?_
    refine ar_aload_n (j := 0) (q := 121) rfl rfl rfl rfl ?_
    refine ar_getf (v := .ref 99) (q := 124) rfl rfl mk_102 rfl rfl ?_
    refine ar_iload_n (j := 1) (q := 125) rfl rfl rfl rfl ?_
    refine ar_invv (as := [.int (nI k)]) (rest := []) (b2 := (0, 0)) (b3 := (0, 0)) (q := 128) rfl rfl rfl rfl mk_99 rfl rfl rfl rfl rfl ?_
    refine am_meth_mono d _ _ _ _ _ (fun v9 m9 h9 => ?_) h
    obtain ⟨I_6, L_7, rfl, rfl, h⟩ := h9
    show am_Run am_X0 (am_meth d) 44 R 128 [some (.ref 102), some (.int (nI k)), none, some (.int a)] [] (am_mk I_6 L_7, 0, 0)
    refine ar_aload_n (j := 0) (q := 129) rfl rfl rfl rfl ?_
    refine ar_iload_n (j := 1) (q := 130) rfl rfl rfl rfl ?_
    refine ar_iconst (v := 0) (q := 131) rfl rfl rfl ?_
    refine ar_iconst (v := 0) (q := 132) rfl rfl rfl ?_
    refine ar_iconst (v := 0) (q := 133) rfl rfl rfl ?_
    refine ar_invv (as := [.int (nI k), .int 0, .int 0, .int 0]) (rest := []) (b2 := (0, 0)) (b3 := (0, 0)) (q := 136) rfl rfl rfl rfl mk_102 rfl rfl rfl rfl rfl ?_
    refine am_meth_mono d _ _ _ _ _ (fun v9 m9 h9 => ?_) h
    obtain ⟨I_8, L_9, rfl, rfl, h⟩ := h9
    show am_Run am_X0 (am_meth d) 44 R 136 [some (.ref 102), some (.int (nI k)), none, some (.int a)] [] (am_mk I_8 L_9, 0, 0)
    exact ar_vret rfl rfl h
  · have h := hB c_1
    clear hA hB
    refine ar_aload_n (j := 0) (q := 77) rfl rfl rfl rfl ?_
    refine ar_getf (v := .ref 105) (q := 80) rfl rfl mk_102 rfl rfl ?_
    refine ar_iload_n (j := 3) (q := 81) rfl rfl rfl rfl ?_
    refine ar_aload_n (j := 0) (q := 82) rfl rfl rfl rfl ?_
    refine ar_getf (v := .ref 105) (q := 85) rfl rfl mk_102 rfl rfl ?_
    refine ar_iload_n (j := 3) (q := 86) rfl rfl rfl rfl ?_
    refine ar_iconst (v := 1) (q := 87) rfl rfl rfl ?_
    refine ar_ib (i := .iadd) (z := a + 1) (q := 88) rfl rfl rfl rfl rfl ?_
    obtain ⟨j_10, hx_11, hi_12, h⟩ := h
    refine ar_iald (v := I 105 j_10) (q := 89) rfl mk_105 (am_inE hi_12 hx_11 (by decide)) (am_clE (n := 11) hi_12 hx_11 (by decide)) rfl ?_
    refine ar_aload_n (j := 0) (q := 90) rfl rfl rfl rfl ?_
    refine ar_getf (v := .ref 66) (q := 93) rfl rfl mk_102 rfl rfl ?_
    refine ar_aload_n (j := 0) (q := 94) rfl rfl rfl rfl ?_
    refine ar_getf (v := .ref 103) (q := 97) rfl rfl mk_102 rfl rfl ?_
    refine ar_iload_n (j := 3) (q := 98) rfl rfl rfl rfl ?_
    obtain ⟨j_13, hx_14, hi_15, h⟩ := h
    refine ar_iald (v := I 103 j_13) (q := 99) rfl mk_103 (am_inE hi_15 hx_14 (by decide)) (am_clE (n := 10) hi_15 hx_14 (by decide)) rfl ?_
    refine ar_invv (as := [.int (I 103 j_13)]) (rest := [.int (I 105 j_10), .int a, .ref 105]) (b2 := (0, 0)) (b3 := (0, 0)) (q := 102) rfl rfl rfl rfl mk_66 rfl rfl rfl rfl rfl ?_
    obtain ⟨j_16, hi_17, h⟩ := h
    obtain ⟨hp_18, h⟩ := h
    refine ok_St_lengthOf (by omega) hi_17 hp_18 ?_
    show am_Run am_X0 (am_meth d) 44 R 102 [some (.ref 102), some (.int (nI k)), none, some (.int a)] [.int (I 69 j_16 - I 68 j_16 + 1), .int (I 105 j_10), .int a, .ref 105] (am_mk I L, 0, 0)
    refine ar_ib (i := .iadd) (z := (I 105 j_10) + (I 69 j_16 - I 68 j_16 + 1)) (q := 103) rfl rfl rfl rfl rfl ?_
    obtain ⟨I_19, hI_20⟩ : ∃ z : Nat → Nat → Int32, z = va_up I 105 (upd (I 105) j_13 ((I 105 j_10) + (I 69 j_16 - I 68 j_16 + 1))) := ⟨_, rfl⟩
    have h := h I_19 hI_20
    refine ar_iast (hp2 := am_mk I_19 L) (q := 104) rfl mk_105 (am_inE hi_15 (Nat.lt_of_lt_of_le hx_14 (by decide)) (by decide)) (by rw [am_clT (n := 11) hi_15 (Nat.lt_of_lt_of_le hx_14 (by decide)) (by decide), hI_20]; exact mk_s105) rfl ?_
    refine ar_iinc (v := a + (-1)) (ls' := [some (.ref 102), some (.int (nI k)), none, some (.int (a + (-1)))]) (q := 107) rfl rfl rfl rfl rfl rfl ?_
    refine ar_goto (t := 72) rfl rfl ?_
    exact am_Run.weak (ls' := _) (by exact ⟨rfl, ⟨rfl, ⟨rfl, trivial⟩⟩⟩) h
theorem r_Chain_insert_0 {d : Nat} {R : am_R} {I : Nat → Nat → Int32} {L : Nat → Nat → Int64} {x : Int32} {b : Int32} (h : (((I 102 7) < 10 → (∀ I_2 : Nat → Nat → Int32, I_2 = va_up I 102 (upd (I 102) 7 ((I 102 7) + 1)) → (am_Run am_X0 (am_meth d) 45 R 22 [some (.ref 102), some (.int x), some (.int b), some (.int (I 102 7))] [] (am_mk I_2 L, 0, 0)))) ∧ (¬ (I 102 7) < 10 → (R none (am_mk I L, 0, 0))))) : am_Run am_X0 (am_meth d) 45 R 0 [some (.ref 102), some (.int x), some (.int b), none] [] (am_mk I L, 0, 0) := by
  refine ar_aload_n (j := 0) (q := 1) rfl rfl rfl rfl ?_
  refine ar_getf (v := .int (I 102 7)) (q := 4) rfl rfl mk_102 rfl rfl ?_
  refine ar_bipush (v := 10) (q := 6) rfl rfl rfl ?_
  obtain ⟨hA, hB⟩ := h
  refine ar_br am_c_lt (t := 10) (q := 9) rfl rfl rfl (fun c_1 => ?_) (fun c_1 => ?_)
  · have h := hA c_1
    clear hA hB
    refine ar_aload_n (j := 0) (q := 11) rfl rfl rfl rfl ?_
    refine ar_st (i := .dup) (n := 1) (st' := [.ref 102, .ref 102]) (q := 12) rfl rfl rfl rfl ?_
    refine ar_getf (v := .int (I 102 7)) (q := 15) rfl rfl mk_102 rfl rfl ?_
    refine ar_st (i := .dup_x1) (n := 1) (st' := [.int (I 102 7), .ref 102, .int (I 102 7)]) (q := 16) rfl rfl rfl rfl ?_
    refine ar_iconst (v := 1) (q := 17) rfl rfl rfl ?_
    refine ar_ib (i := .iadd) (z := (I 102 7) + 1) (q := 18) rfl rfl rfl rfl rfl ?_
    obtain ⟨I_2, hI_3⟩ : ∃ z : Nat → Nat → Int32, z = va_up I 102 (upd (I 102) 7 ((I 102 7) + 1)) := ⟨_, rfl⟩
    have h := h I_2 hI_3
    refine ar_putf (hp2 := am_mk I_2 L) (q := 21) rfl rfl mk_102 rfl (by rw [hI_3]; exact mk_p102_7) rfl ?_
    refine ar_istore_n (j := 3) (ls' := [some (.ref 102), some (.int x), some (.int b), some (.int (I 102 7))]) (q := 22) rfl rfl rfl rfl rfl ?_
    exact am_Run.weak (ls' := _) (by exact ⟨rfl, ⟨rfl, ⟨rfl, ⟨rfl, trivial⟩⟩⟩⟩) h
  · have h := hB c_1
    clear hA hB
    exact ar_vret rfl rfl h
theorem r_Chain_insert_22 {d : Nat} {R : am_R} {I : Nat → Nat → Int32} {L : Nat → Nat → Int64} {x : Int32} {b : Int32} {a : Nat} (h : (((nI a) ≤ 0 → (a < 10 ∧ (∀ I_3 : Nat → Nat → Int32, I_3 = va_up I 103 (upd (I 103) a x) → (∀ I_5 : Nat → Nat → Int32, I_5 = va_up I_3 104 (upd (I_3 104) a b) → (R none (am_mk I_5 L, 0, 0)))))) ∧ (¬ (nI a) ≤ 0 → (∃ j_7 : Nat, j_7 < 10 ∧ (nI a) - 1 = nI j_7 ∧ (∃ j_10 : Nat, j_10 < 60 ∧ I 103 j_7 = nI j_10 ∧ (∃ j_13 : Nat, j_13 < 60 ∧ x = nI j_13 ∧ ((((I 68 j_10) ≤ (I 68 j_13) → (a < 10 ∧ (∀ I_18 : Nat → Nat → Int32, I_18 = va_up I 103 (upd (I 103) a x) → (∀ I_20 : Nat → Nat → Int32, I_20 = va_up I_18 104 (upd (I_18 104) a b) → (R none (am_mk I_20 L, 0, 0)))))) ∧ (¬ (I 68 j_10) ≤ (I 68 j_13) → (a < 10 ∧ (∀ I_23 : Nat → Nat → Int32, I_23 = va_up I 103 (upd (I 103) a (I 103 j_7)) → (∀ I_25 : Nat → Nat → Int32, I_25 = va_up I_23 104 (upd (I_23 104) a (I_23 104 j_7)) → (am_Run am_X0 (am_meth d) 45 R 22 [some (.ref 102), some (.int x), some (.int b), some (.int ((nI a) + (-1)))] [] (am_mk I_25 L, 0, 0)))))))))))))) : am_Run am_X0 (am_meth d) 45 R 22 [some (.ref 102), some (.int x), some (.int b), some (.int (nI a))] [] (am_mk I L, 0, 0) := by
  refine ar_iload_n (j := 3) (q := 23) rfl rfl rfl rfl ?_
  obtain ⟨hA, hB⟩ := h
  refine ar_b0 am_c_le (t := 88) (q := 26) rfl rfl rfl (fun c_1 => ?_) (fun c_1 => ?_)
  · have h := hA c_1
    clear hA hB
    refine ar_aload_n (j := 0) (q := 89) rfl rfl rfl rfl ?_
    refine ar_getf (v := .ref 103) (q := 92) rfl rfl mk_102 rfl rfl ?_
    refine ar_iload_n (j := 3) (q := 93) rfl rfl rfl rfl ?_
    refine ar_iload_n (j := 1) (q := 94) rfl rfl rfl rfl ?_
    obtain ⟨hx_2, h⟩ := h
    obtain ⟨I_3, hI_4⟩ : ∃ z : Nat → Nat → Int32, z = va_up I 103 (upd (I 103) a x) := ⟨_, rfl⟩
    have h := h I_3 hI_4
    refine ar_iast (hp2 := am_mk I_3 L) (q := 95) rfl mk_103 (am_inE rfl hx_2 (by decide)) (by rw [am_clT (n := 10) rfl hx_2 (by decide), hI_4]; exact mk_s103) rfl ?_
    refine ar_aload_n (j := 0) (q := 96) rfl rfl rfl rfl ?_
    refine ar_getf (v := .ref 104) (q := 99) rfl rfl mk_102 rfl rfl ?_
    refine ar_iload_n (j := 3) (q := 100) rfl rfl rfl rfl ?_
    refine ar_iload_n (j := 2) (q := 101) rfl rfl rfl rfl ?_
    obtain ⟨I_5, hI_6⟩ : ∃ z : Nat → Nat → Int32, z = va_up I_3 104 (upd (I_3 104) a b) := ⟨_, rfl⟩
    have h := h I_5 hI_6
    refine ar_iast (hp2 := am_mk I_5 L) (q := 102) rfl mk_104 (am_inE rfl hx_2 (by decide)) (by rw [am_clT (n := 10) rfl hx_2 (by decide), hI_6]; exact mk_s104) rfl ?_
    exact ar_vret rfl rfl h
  · have h := hB c_1
    clear hA hB
    refine ar_aload_n (j := 0) (q := 27) rfl rfl rfl rfl ?_
    refine ar_getf (v := .ref 66) (q := 30) rfl rfl mk_102 rfl rfl ?_
    refine ar_getf (v := .ref 68) (q := 33) rfl rfl mk_66 rfl rfl ?_
    refine ar_aload_n (j := 0) (q := 34) rfl rfl rfl rfl ?_
    refine ar_getf (v := .ref 103) (q := 37) rfl rfl mk_102 rfl rfl ?_
    refine ar_iload_n (j := 3) (q := 38) rfl rfl rfl rfl ?_
    refine ar_iconst (v := 1) (q := 39) rfl rfl rfl ?_
    refine ar_ib (i := .isub) (z := (nI a) - 1) (q := 40) rfl rfl rfl rfl rfl ?_
    obtain ⟨j_7, hx_8, hi_9, h⟩ := h
    refine ar_iald (v := I 103 j_7) (q := 41) rfl mk_103 (am_inE hi_9 hx_8 (by decide)) (am_clE (n := 10) hi_9 hx_8 (by decide)) rfl ?_
    obtain ⟨j_10, hx_11, hi_12, h⟩ := h
    refine ar_iald (v := I 68 j_10) (q := 42) rfl mk_68 (am_inE hi_12 hx_11 (by decide)) (am_clE (n := 60) hi_12 hx_11 (by decide)) rfl ?_
    refine ar_aload_n (j := 0) (q := 43) rfl rfl rfl rfl ?_
    refine ar_getf (v := .ref 66) (q := 46) rfl rfl mk_102 rfl rfl ?_
    refine ar_getf (v := .ref 68) (q := 49) rfl rfl mk_66 rfl rfl ?_
    refine ar_iload_n (j := 1) (q := 50) rfl rfl rfl rfl ?_
    obtain ⟨j_13, hx_14, hi_15, h⟩ := h
    refine ar_iald (v := I 68 j_13) (q := 51) rfl mk_68 (am_inE hi_15 hx_14 (by decide)) (am_clE (n := 60) hi_15 hx_14 (by decide)) rfl ?_
    obtain ⟨hA, hB⟩ := h
    refine ar_br am_c_le (t := 88) (q := 54) rfl rfl rfl (fun c_16 => ?_) (fun c_16 => ?_)
    · have h := hA c_16
      clear hA hB
      refine ar_aload_n (j := 0) (q := 89) rfl rfl rfl rfl ?_
      refine ar_getf (v := .ref 103) (q := 92) rfl rfl mk_102 rfl rfl ?_
      refine ar_iload_n (j := 3) (q := 93) rfl rfl rfl rfl ?_
      refine ar_iload_n (j := 1) (q := 94) rfl rfl rfl rfl ?_
      obtain ⟨hx_17, h⟩ := h
      obtain ⟨I_18, hI_19⟩ : ∃ z : Nat → Nat → Int32, z = va_up I 103 (upd (I 103) a x) := ⟨_, rfl⟩
      have h := h I_18 hI_19
      refine ar_iast (hp2 := am_mk I_18 L) (q := 95) rfl mk_103 (am_inE rfl hx_17 (by decide)) (by rw [am_clT (n := 10) rfl hx_17 (by decide), hI_19]; exact mk_s103) rfl ?_
      refine ar_aload_n (j := 0) (q := 96) rfl rfl rfl rfl ?_
      refine ar_getf (v := .ref 104) (q := 99) rfl rfl mk_102 rfl rfl ?_
      refine ar_iload_n (j := 3) (q := 100) rfl rfl rfl rfl ?_
      refine ar_iload_n (j := 2) (q := 101) rfl rfl rfl rfl ?_
      obtain ⟨I_20, hI_21⟩ : ∃ z : Nat → Nat → Int32, z = va_up I_18 104 (upd (I_18 104) a b) := ⟨_, rfl⟩
      have h := h I_20 hI_21
      refine ar_iast (hp2 := am_mk I_20 L) (q := 102) rfl mk_104 (am_inE rfl hx_17 (by decide)) (by rw [am_clT (n := 10) rfl hx_17 (by decide), hI_21]; exact mk_s104) rfl ?_
      exact ar_vret rfl rfl h
    · have h := hB c_16
      clear hA hB
      refine ar_aload_n (j := 0) (q := 55) rfl rfl rfl rfl ?_
      refine ar_getf (v := .ref 103) (q := 58) rfl rfl mk_102 rfl rfl ?_
      refine ar_iload_n (j := 3) (q := 59) rfl rfl rfl rfl ?_
      refine ar_aload_n (j := 0) (q := 60) rfl rfl rfl rfl ?_
      refine ar_getf (v := .ref 103) (q := 63) rfl rfl mk_102 rfl rfl ?_
      refine ar_iload_n (j := 3) (q := 64) rfl rfl rfl rfl ?_
      refine ar_iconst (v := 1) (q := 65) rfl rfl rfl ?_
      refine ar_ib (i := .isub) (z := (nI a) - 1) (q := 66) rfl rfl rfl rfl rfl ?_
      refine ar_iald (v := I 103 j_7) (q := 67) rfl mk_103 (am_inE hi_9 hx_8 (by decide)) (am_clE (n := 10) hi_9 hx_8 (by decide)) rfl ?_
      obtain ⟨hx_22, h⟩ := h
      obtain ⟨I_23, hI_24⟩ : ∃ z : Nat → Nat → Int32, z = va_up I 103 (upd (I 103) a (I 103 j_7)) := ⟨_, rfl⟩
      have h := h I_23 hI_24
      refine ar_iast (hp2 := am_mk I_23 L) (q := 68) rfl mk_103 (am_inE rfl hx_22 (by decide)) (by rw [am_clT (n := 10) rfl hx_22 (by decide), hI_24]; exact mk_s103) rfl ?_
      refine ar_aload_n (j := 0) (q := 69) rfl rfl rfl rfl ?_
      refine ar_getf (v := .ref 104) (q := 72) rfl rfl mk_102 rfl rfl ?_
      refine ar_iload_n (j := 3) (q := 73) rfl rfl rfl rfl ?_
      refine ar_aload_n (j := 0) (q := 74) rfl rfl rfl rfl ?_
      refine ar_getf (v := .ref 104) (q := 77) rfl rfl mk_102 rfl rfl ?_
      refine ar_iload_n (j := 3) (q := 78) rfl rfl rfl rfl ?_
      refine ar_iconst (v := 1) (q := 79) rfl rfl rfl ?_
      refine ar_ib (i := .isub) (z := (nI a) - 1) (q := 80) rfl rfl rfl rfl rfl ?_
      refine ar_iald (v := I_23 104 j_7) (q := 81) rfl mk_104 (am_inE hi_9 hx_8 (by decide)) (am_clE (n := 10) hi_9 hx_8 (by decide)) rfl ?_
      obtain ⟨I_25, hI_26⟩ : ∃ z : Nat → Nat → Int32, z = va_up I_23 104 (upd (I_23 104) a (I_23 104 j_7)) := ⟨_, rfl⟩
      have h := h I_25 hI_26
      refine ar_iast (hp2 := am_mk I_25 L) (q := 82) rfl mk_104 (am_inE rfl hx_22 (by decide)) (by rw [am_clT (n := 10) rfl hx_22 (by decide), hI_26]; exact mk_s104) rfl ?_
      refine ar_iinc (v := (nI a) + (-1)) (ls' := [some (.ref 102), some (.int x), some (.int b), some (.int ((nI a) + (-1)))]) (q := 85) rfl rfl rfl rfl rfl rfl ?_
      refine ar_goto (t := 22) rfl rfl ?_
      exact am_Run.weak (ls' := _) (by exact ⟨rfl, ⟨rfl, ⟨rfl, ⟨rfl, trivial⟩⟩⟩⟩) h
theorem r_Chain_search_0 {d : Nat} (hd : 1 ≤ d) {R : am_R} {I : Nat → Nat → Int32} {L : Nat → Nat → Int64} {k : Nat} {a : Nat} {s : Nat} {w : Nat} (h : (((nI a) < (I 102 7) → (a < 11 ∧ (((((nI w) + (I 105 a)) < (I 102 0) → (R none (am_mk I L, 0, 0))) ∧ (¬ ((nI w) + (I 105 a)) < (I 102 0) → (a < 10 ∧ (am_meth d 98 [.ref 99, .int (nI k), .int (I 103 a)] (am_mk I L, 0, 0) (am_ri (fun z_5 I_6 L_7 => ((z_5 = 0 → ((am_ix I_6 99 8 120) ∧ (∃ j_10 : Nat, (va_up (va_up I_6 99 (upd (I_6 99) 8 (I_6 99 8 + 1))) 101 (upd (I_6 101) (am_n I_6 99 8) (I_6 103 a))) 103 a = nI j_10 ∧ ((j_10 < 60) ∧ (am_meth d 46 [.ref 102, .int (nI k), .int ((nI a) + 1), .int ((nI s) ||| ((va_up (va_up I_6 99 (upd (I_6 99) 8 (I_6 99 8 + 1))) 101 (upd (I_6 101) (am_n I_6 99 8) (I_6 103 a))) 104 a)), .int ((nI w) + ((va_up (va_up I_6 99 (upd (I_6 99) 8 (I_6 99 8 + 1))) 101 (upd (I_6 101) (am_n I_6 99 8) (I_6 103 a))) 69 j_10 - (va_up (va_up I_6 99 (upd (I_6 99) 8 (I_6 99 8 + 1))) 101 (upd (I_6 101) (am_n I_6 99 8) (I_6 103 a))) 68 j_10 + 1))] (am_mk (va_up (va_up I_6 99 (upd (I_6 99) 8 (I_6 99 8 + 1))) 101 (upd (I_6 101) (am_n I_6 99 8) (I_6 103 a))) L_7, 0, 0) (am_rv (fun I_13 L_14 => am_meth d 112 [.ref 99] (am_mk I_13 L_14, 0, 0) (am_rv (fun I_15 L_16 => am_meth d 46 [.ref 102, .int (nI k), .int ((nI a) + 1), .int (nI s), .int (nI w)] (am_mk I_15 L_16, 0, 0) (am_rv (fun I_17 L_18 => R none (am_mk I_17 L_18, 0, 0)))))))))))) ∧ (¬ z_5 = 0 → (am_meth d 46 [.ref 102, .int (nI k), .int ((nI a) + 1), .int (nI s), .int (nI w)] (am_mk I_6 L_7, 0, 0) (am_rv (fun I_19 L_20 => R none (am_mk I_19 L_20, 0, 0))))))))))))))) ∧ (¬ (nI a) < (I 102 7) → (am_meth d 47 [.ref 102, .int (nI s), .int (nI w)] (am_mk I L, 0, 0) (am_rv (fun I_21 L_22 => R none (am_mk I_21 L_22, 0, 0))))))) : am_Run am_X0 (am_meth d) 46 R 0 [some (.ref 102), some (.int (nI k)), some (.int (nI a)), some (.int (nI s)), some (.int (nI w))] [] (am_mk I L, 0, 0) := by
  refine ar_iload_n (j := 2) (q := 1) rfl rfl rfl rfl ?_
  refine ar_aload_n (j := 0) (q := 2) rfl rfl rfl rfl ?_
  refine ar_getf (v := .int (I 102 7)) (q := 5) rfl rfl mk_102 rfl rfl ?_
  obtain ⟨hA, hB⟩ := h
  refine ar_br am_c_lt (t := 16) (q := 8) rfl rfl rfl (fun c_1 => ?_) (fun c_1 => ?_)
  · have h := hA c_1
    clear hA hB
    refine ar_iload (q := 18) rfl rfl rfl ?_
    refine ar_aload_n (j := 0) (q := 19) rfl rfl rfl rfl ?_
    refine ar_getf (v := .ref 105) (q := 22) rfl rfl mk_102 rfl rfl ?_
    refine ar_iload_n (j := 2) (q := 23) rfl rfl rfl rfl ?_
    obtain ⟨hx_2, h⟩ := h
    refine ar_iald (v := I 105 a) (q := 24) rfl mk_105 (am_inE rfl hx_2 (by decide)) (am_clE (n := 11) rfl hx_2 (by decide)) rfl ?_
    refine ar_ib (i := .iadd) (z := (nI w) + (I 105 a)) (q := 25) rfl rfl rfl rfl rfl ?_
    refine ar_aload_n (j := 0) (q := 26) rfl rfl rfl rfl ?_
    refine ar_getf (v := .int (I 102 0)) (q := 29) rfl rfl mk_102 rfl rfl ?_
    obtain ⟨hA, hB⟩ := h
    refine ar_br am_d_ge (t := 33) (q := 32) rfl rfl rfl (fun c_3 => ?_) (fun c_3 => ?_)
    · have h := hB c_3
      clear hA hB
      refine ar_aload_n (j := 0) (q := 34) rfl rfl rfl rfl ?_
      refine ar_getf (v := .ref 99) (q := 37) rfl rfl mk_102 rfl rfl ?_
      refine ar_iload_n (j := 1) (q := 38) rfl rfl rfl rfl ?_
      refine ar_aload_n (j := 0) (q := 39) rfl rfl rfl rfl ?_
      refine ar_getf (v := .ref 103) (q := 42) rfl rfl mk_102 rfl rfl ?_
      refine ar_iload_n (j := 2) (q := 43) rfl rfl rfl rfl ?_
      obtain ⟨hx_4, h⟩ := h
      refine ar_iald (v := I 103 a) (q := 44) rfl mk_103 (am_inE rfl hx_4 (by decide)) (am_clE (n := 10) rfl hx_4 (by decide)) rfl ?_
      refine ar_invv (as := [.int (nI k), .int (I 103 a)]) (rest := []) (b2 := (0, 0)) (b3 := (0, 0)) (q := 47) rfl rfl rfl rfl mk_99 rfl rfl rfl rfl rfl ?_
      refine am_meth_mono d _ _ _ _ _ (fun v9 m9 h9 => ?_) h
      obtain ⟨z_5, I_6, L_7, rfl, rfl, h⟩ := h9
      show am_Run am_X0 (am_meth d) 46 R 47 [some (.ref 102), some (.int (nI k)), some (.int (nI a)), some (.int (nI s)), some (.int (nI w))] [.int z_5] (am_mk I_6 L_7, 0, 0)
      obtain ⟨hA, hB⟩ := h
      refine ar_b0 am_c_ne (t := 102) (q := 50) rfl rfl rfl (fun c_8 => ?_) (fun c_8 => ?_)
      · have h := hB c_8
        clear hA hB
        refine ar_aload_n (j := 0) (q := 103) rfl rfl rfl rfl ?_
        refine ar_iload_n (j := 1) (q := 104) rfl rfl rfl rfl ?_
        refine ar_iload_n (j := 2) (q := 105) rfl rfl rfl rfl ?_
        refine ar_iconst (v := 1) (q := 106) rfl rfl rfl ?_
        refine ar_ib (i := .iadd) (z := (nI a) + 1) (q := 107) rfl rfl rfl rfl rfl ?_
        refine ar_iload_n (j := 3) (q := 108) rfl rfl rfl rfl ?_
        refine ar_iload (q := 110) rfl rfl rfl ?_
        refine ar_invv (as := [.int (nI k), .int ((nI a) + 1), .int (nI s), .int (nI w)]) (rest := []) (b2 := (0, 0)) (b3 := (0, 0)) (q := 113) rfl rfl rfl rfl mk_102 rfl rfl rfl rfl rfl ?_
        refine am_meth_mono d _ _ _ _ _ (fun v9 m9 h9 => ?_) h
        obtain ⟨I_19, L_20, rfl, rfl, h⟩ := h9
        show am_Run am_X0 (am_meth d) 46 R 113 [some (.ref 102), some (.int (nI k)), some (.int (nI a)), some (.int (nI s)), some (.int (nI w))] [] (am_mk I_19 L_20, 0, 0)
        exact ar_vret rfl rfl h
      · have c_8 := Classical.not_not.mp c_8
        have h := hA c_8
        clear hA hB
        refine ar_aload_n (j := 0) (q := 51) rfl rfl rfl rfl ?_
        refine ar_getf (v := .ref 99) (q := 54) rfl rfl mk_102 rfl rfl ?_
        refine ar_aload_n (j := 0) (q := 55) rfl rfl rfl rfl ?_
        refine ar_getf (v := .ref 103) (q := 58) rfl rfl mk_102 rfl rfl ?_
        refine ar_iload_n (j := 2) (q := 59) rfl rfl rfl rfl ?_
        refine ar_iald (v := I_6 103 a) (q := 60) rfl mk_103 (am_inE rfl hx_4 (by decide)) (am_clE (n := 10) rfl hx_4 (by decide)) rfl ?_
        refine ar_invv (as := [.int (I_6 103 a)]) (rest := []) (b2 := (0, 0)) (b3 := (0, 0)) (q := 63) rfl rfl rfl rfl mk_99 rfl rfl rfl rfl rfl ?_
        obtain ⟨hp_9, h⟩ := h
        refine ok_Ru_addToMine (by omega) hp_9 ?_
        show am_Run am_X0 (am_meth d) 46 R 63 [some (.ref 102), some (.int (nI k)), some (.int (nI a)), some (.int (nI s)), some (.int (nI w))] [] (am_mk (va_up (va_up I_6 99 (upd (I_6 99) 8 (I_6 99 8 + 1))) 101 (upd (I_6 101) (am_n I_6 99 8) (I_6 103 a))) L_7, 0, 0)
        refine ar_aload_n (j := 0) (q := 64) rfl rfl rfl rfl ?_
        refine ar_iload_n (j := 1) (q := 65) rfl rfl rfl rfl ?_
        refine ar_iload_n (j := 2) (q := 66) rfl rfl rfl rfl ?_
        refine ar_iconst (v := 1) (q := 67) rfl rfl rfl ?_
        refine ar_ib (i := .iadd) (z := (nI a) + 1) (q := 68) rfl rfl rfl rfl rfl ?_
        refine ar_iload_n (j := 3) (q := 69) rfl rfl rfl rfl ?_
        refine ar_aload_n (j := 0) (q := 70) rfl rfl rfl rfl ?_
        refine ar_getf (v := .ref 104) (q := 73) rfl rfl mk_102 rfl rfl ?_
        refine ar_iload_n (j := 2) (q := 74) rfl rfl rfl rfl ?_
        refine ar_iald (v := (va_up (va_up I_6 99 (upd (I_6 99) 8 (I_6 99 8 + 1))) 101 (upd (I_6 101) (am_n I_6 99 8) (I_6 103 a))) 104 a) (q := 75) rfl mk_104 (am_inE rfl hx_4 (by decide)) (am_clE (n := 10) rfl hx_4 (by decide)) rfl ?_
        refine ar_ib (i := .ior) (z := (nI s) ||| ((va_up (va_up I_6 99 (upd (I_6 99) 8 (I_6 99 8 + 1))) 101 (upd (I_6 101) (am_n I_6 99 8) (I_6 103 a))) 104 a)) (q := 76) rfl rfl rfl rfl rfl ?_
        refine ar_iload (q := 78) rfl rfl rfl ?_
        refine ar_aload_n (j := 0) (q := 79) rfl rfl rfl rfl ?_
        refine ar_getf (v := .ref 66) (q := 82) rfl rfl mk_102 rfl rfl ?_
        refine ar_aload_n (j := 0) (q := 83) rfl rfl rfl rfl ?_
        refine ar_getf (v := .ref 103) (q := 86) rfl rfl mk_102 rfl rfl ?_
        refine ar_iload_n (j := 2) (q := 87) rfl rfl rfl rfl ?_
        refine ar_iald (v := (va_up (va_up I_6 99 (upd (I_6 99) 8 (I_6 99 8 + 1))) 101 (upd (I_6 101) (am_n I_6 99 8) (I_6 103 a))) 103 a) (q := 88) rfl mk_103 (am_inE rfl hx_4 (by decide)) (am_clE (n := 10) rfl hx_4 (by decide)) rfl ?_
        refine ar_invv (as := [.int ((va_up (va_up I_6 99 (upd (I_6 99) 8 (I_6 99 8 + 1))) 101 (upd (I_6 101) (am_n I_6 99 8) (I_6 103 a))) 103 a)]) (rest := [.int (nI w), .int ((nI s) ||| ((va_up (va_up I_6 99 (upd (I_6 99) 8 (I_6 99 8 + 1))) 101 (upd (I_6 101) (am_n I_6 99 8) (I_6 103 a))) 104 a)), .int ((nI a) + 1), .int (nI k), .ref 102]) (b2 := (0, 0)) (b3 := (0, 0)) (q := 91) rfl rfl rfl rfl mk_66 rfl rfl rfl rfl rfl ?_
        obtain ⟨j_10, hi_11, h⟩ := h
        obtain ⟨hp_12, h⟩ := h
        refine ok_St_lengthOf (by omega) hi_11 hp_12 ?_
        show am_Run am_X0 (am_meth d) 46 R 91 [some (.ref 102), some (.int (nI k)), some (.int (nI a)), some (.int (nI s)), some (.int (nI w))] [.int ((va_up (va_up I_6 99 (upd (I_6 99) 8 (I_6 99 8 + 1))) 101 (upd (I_6 101) (am_n I_6 99 8) (I_6 103 a))) 69 j_10 - (va_up (va_up I_6 99 (upd (I_6 99) 8 (I_6 99 8 + 1))) 101 (upd (I_6 101) (am_n I_6 99 8) (I_6 103 a))) 68 j_10 + 1), .int (nI w), .int ((nI s) ||| ((va_up (va_up I_6 99 (upd (I_6 99) 8 (I_6 99 8 + 1))) 101 (upd (I_6 101) (am_n I_6 99 8) (I_6 103 a))) 104 a)), .int ((nI a) + 1), .int (nI k), .ref 102] (am_mk (va_up (va_up I_6 99 (upd (I_6 99) 8 (I_6 99 8 + 1))) 101 (upd (I_6 101) (am_n I_6 99 8) (I_6 103 a))) L_7, 0, 0)
        refine ar_ib (i := .iadd) (z := (nI w) + ((va_up (va_up I_6 99 (upd (I_6 99) 8 (I_6 99 8 + 1))) 101 (upd (I_6 101) (am_n I_6 99 8) (I_6 103 a))) 69 j_10 - (va_up (va_up I_6 99 (upd (I_6 99) 8 (I_6 99 8 + 1))) 101 (upd (I_6 101) (am_n I_6 99 8) (I_6 103 a))) 68 j_10 + 1)) (q := 92) rfl rfl rfl rfl rfl ?_
        refine ar_invv (as := [.int (nI k), .int ((nI a) + 1), .int ((nI s) ||| ((va_up (va_up I_6 99 (upd (I_6 99) 8 (I_6 99 8 + 1))) 101 (upd (I_6 101) (am_n I_6 99 8) (I_6 103 a))) 104 a)), .int ((nI w) + ((va_up (va_up I_6 99 (upd (I_6 99) 8 (I_6 99 8 + 1))) 101 (upd (I_6 101) (am_n I_6 99 8) (I_6 103 a))) 69 j_10 - (va_up (va_up I_6 99 (upd (I_6 99) 8 (I_6 99 8 + 1))) 101 (upd (I_6 101) (am_n I_6 99 8) (I_6 103 a))) 68 j_10 + 1))]) (rest := []) (b2 := (0, 0)) (b3 := (0, 0)) (q := 95) rfl rfl rfl rfl mk_102 rfl rfl rfl rfl rfl ?_
        refine am_meth_mono d _ _ _ _ _ (fun v9 m9 h9 => ?_) h
        obtain ⟨I_13, L_14, rfl, rfl, h⟩ := h9
        show am_Run am_X0 (am_meth d) 46 R 95 [some (.ref 102), some (.int (nI k)), some (.int (nI a)), some (.int (nI s)), some (.int (nI w))] [] (am_mk I_13 L_14, 0, 0)
        refine ar_aload_n (j := 0) (q := 96) rfl rfl rfl rfl ?_
        refine ar_getf (v := .ref 99) (q := 99) rfl rfl mk_102 rfl rfl ?_
        refine ar_invv (as := []) (rest := []) (b2 := (0, 0)) (b3 := (0, 0)) (q := 102) rfl rfl rfl rfl mk_99 rfl rfl rfl rfl rfl ?_
        refine am_meth_mono d _ _ _ _ _ (fun v9 m9 h9 => ?_) h
        obtain ⟨I_15, L_16, rfl, rfl, h⟩ := h9
        show am_Run am_X0 (am_meth d) 46 R 102 [some (.ref 102), some (.int (nI k)), some (.int (nI a)), some (.int (nI s)), some (.int (nI w))] [] (am_mk I_15 L_16, 0, 0)
        refine ar_aload_n (j := 0) (q := 103) rfl rfl rfl rfl ?_
        refine ar_iload_n (j := 1) (q := 104) rfl rfl rfl rfl ?_
        refine ar_iload_n (j := 2) (q := 105) rfl rfl rfl rfl ?_
        refine ar_iconst (v := 1) (q := 106) rfl rfl rfl ?_
        refine ar_ib (i := .iadd) (z := (nI a) + 1) (q := 107) rfl rfl rfl rfl rfl ?_
        refine ar_iload_n (j := 3) (q := 108) rfl rfl rfl rfl ?_
        refine ar_iload (q := 110) rfl rfl rfl ?_
        refine ar_invv (as := [.int (nI k), .int ((nI a) + 1), .int (nI s), .int (nI w)]) (rest := []) (b2 := (0, 0)) (b3 := (0, 0)) (q := 113) rfl rfl rfl rfl mk_102 rfl rfl rfl rfl rfl ?_
        refine am_meth_mono d _ _ _ _ _ (fun v9 m9 h9 => ?_) h
        obtain ⟨I_17, L_18, rfl, rfl, h⟩ := h9
        show am_Run am_X0 (am_meth d) 46 R 113 [some (.ref 102), some (.int (nI k)), some (.int (nI a)), some (.int (nI s)), some (.int (nI w))] [] (am_mk I_17 L_18, 0, 0)
        exact ar_vret rfl rfl h
    · have c_3 := Classical.not_not.mp c_3
      have h := hA c_3
      clear hA hB
      exact ar_vret rfl rfl h
  · have h := hB c_1
    clear hA hB
    refine ar_aload_n (j := 0) (q := 9) rfl rfl rfl rfl ?_
    refine ar_iload_n (j := 3) (q := 10) rfl rfl rfl rfl ?_
    refine ar_iload (q := 12) rfl rfl rfl ?_
    refine ar_invv (as := [.int (nI s), .int (nI w)]) (rest := []) (b2 := (0, 0)) (b3 := (0, 0)) (q := 15) rfl rfl rfl rfl mk_102 rfl rfl rfl rfl rfl ?_
    refine am_meth_mono d _ _ _ _ _ (fun v9 m9 h9 => ?_) h
    obtain ⟨I_21, L_22, rfl, rfl, h⟩ := h9
    show am_Run am_X0 (am_meth d) 46 R 15 [some (.ref 102), some (.int (nI k)), some (.int (nI a)), some (.int (nI s)), some (.int (nI w))] [] (am_mk I_21 L_22, 0, 0)
    exact ar_vret rfl rfl h
theorem r_Chain_weigh_0 {d : Nat} {R : am_R} {I : Nat → Nat → Int32} {L : Nat → Nat → Int64} {s : Nat} {w : Nat} (h : am_meth d 249 [.int (nI w), .int (I 102 0)] (am_mk I L, 0, 0) (am_ri (fun z_1 I_2 L_3 => ((z_1 = 0 → (am_meth d 248 [.int (I_2 102 1)] (am_mk I_2 L_3, 0, 0) (am_ri (fun z_5 I_6 L_7 => am_meth d 248 [.int (nI s)] (am_mk I_6 L_7, 0, 0) (am_ri (fun z_8 I_9 L_10 => am_meth d 249 [.int z_5, .int z_8] (am_mk I_9 L_10, 0, 0) (am_ri (fun z_11 I_12 L_13 => ((z_11 = 0 → (am_meth d 249 [.int (I_12 102 1), .int (nI s)] (am_mk I_12 L_13, 0, 0) (am_ri (fun z_15 I_16 L_17 => ((z_15 ≤ 0 → (R none (am_mk I_16 L_17, 0, 0))) ∧ (¬ z_15 ≤ 0 → (∀ I_19 : Nat → Nat → Int32, I_19 = va_up I_16 102 (upd (I_16 102) 0 (nI w)) → (∀ I_21 : Nat → Nat → Int32, I_21 = va_up I_19 102 (upd (I_19 102) 1 (nI s)) → (R none (am_mk I_21 L_17, 0, 0)))))))))) ∧ (¬ z_11 = 0 → (((z_11 ≤ 0 → (R none (am_mk I_12 L_13, 0, 0))) ∧ (¬ z_11 ≤ 0 → (∀ I_24 : Nat → Nat → Int32, I_24 = va_up I_12 102 (upd (I_12 102) 0 (nI w)) → (∀ I_26 : Nat → Nat → Int32, I_26 = va_up I_24 102 (upd (I_24 102) 1 (nI s)) → (R none (am_mk I_26 L_13, 0, 0))))))))))))))))) ∧ (¬ z_1 = 0 → (((z_1 ≤ 0 → (R none (am_mk I_2 L_3, 0, 0))) ∧ (¬ z_1 ≤ 0 → (∀ I_29 : Nat → Nat → Int32, I_29 = va_up I_2 102 (upd (I_2 102) 0 (nI w)) → (∀ I_31 : Nat → Nat → Int32, I_31 = va_up I_29 102 (upd (I_29 102) 1 (nI s)) → (R none (am_mk I_31 L_3, 0, 0)))))))))))) : am_Run am_X0 (am_meth d) 47 R 0 [some (.ref 102), some (.int (nI s)), some (.int (nI w)), none] [] (am_mk I L, 0, 0) := by
  refine ar_iload_n (j := 2) (q := 1) rfl rfl rfl rfl ?_
  refine ar_aload_n (j := 0) (q := 2) rfl rfl rfl rfl ?_
  refine ar_getf (v := .int (I 102 0)) (q := 5) rfl rfl mk_102 rfl rfl ?_
  refine ar_invs (as := [.int (nI w), .int (I 102 0)]) (rest := []) (b2 := (0, 0)) (b3 := (0, 0)) (q := 8) rfl rfl rfl rfl rfl rfl rfl rfl rfl ?_
  refine am_meth_mono d _ _ _ _ _ (fun v9 m9 h9 => ?_) h
  obtain ⟨z_1, I_2, L_3, rfl, rfl, h⟩ := h9
  show am_Run am_X0 (am_meth d) 47 R 8 [some (.ref 102), some (.int (nI s)), some (.int (nI w)), none] [.int z_1] (am_mk I_2 L_3, 0, 0)
  refine ar_istore_n (j := 3) (ls' := [some (.ref 102), some (.int (nI s)), some (.int (nI w)), some (.int z_1)]) (q := 9) rfl rfl rfl rfl rfl ?_
  refine ar_iload_n (j := 3) (q := 10) rfl rfl rfl rfl ?_
  obtain ⟨hA, hB⟩ := h
  refine ar_b0 am_c_ne (t := 28) (q := 13) rfl rfl rfl (fun c_4 => ?_) (fun c_4 => ?_)
  · have h := hB c_4
    clear hA hB
    refine ar_iload_n (j := 3) (q := 29) rfl rfl rfl rfl ?_
    refine ar_b0 am_c_ne (t := 41) (q := 32) rfl rfl rfl (fun _ => ?_) (fun c9 => absurd c_4 c9)
    refine ar_iload_n (j := 3) (q := 42) rfl rfl rfl rfl ?_
    obtain ⟨hA, hB⟩ := h
    refine ar_b0 am_c_le (t := 55) (q := 45) rfl rfl rfl (fun c_28 => ?_) (fun c_28 => ?_)
    · have h := hA c_28
      clear hA hB
      exact ar_vret rfl rfl h
    · have h := hB c_28
      clear hA hB
      refine ar_aload_n (j := 0) (q := 46) rfl rfl rfl rfl ?_
      refine ar_iload_n (j := 2) (q := 47) rfl rfl rfl rfl ?_
      obtain ⟨I_29, hI_30⟩ : ∃ z : Nat → Nat → Int32, z = va_up I_2 102 (upd (I_2 102) 0 (nI w)) := ⟨_, rfl⟩
      have h := h I_29 hI_30
      refine ar_putf (hp2 := am_mk I_29 L_3) (q := 50) rfl rfl mk_102 rfl (by rw [hI_30]; exact mk_p102_0) rfl ?_
      refine ar_aload_n (j := 0) (q := 51) rfl rfl rfl rfl ?_
      refine ar_iload_n (j := 1) (q := 52) rfl rfl rfl rfl ?_
      obtain ⟨I_31, hI_32⟩ : ∃ z : Nat → Nat → Int32, z = va_up I_29 102 (upd (I_29 102) 1 (nI s)) := ⟨_, rfl⟩
      have h := h I_31 hI_32
      refine ar_putf (hp2 := am_mk I_31 L_3) (q := 55) rfl rfl mk_102 rfl (by rw [hI_32]; exact mk_p102_1) rfl ?_
      exact ar_vret rfl rfl h
  · have c_4 := Classical.not_not.mp c_4
    have h := hA c_4
    clear hA hB
    refine ar_aload_n (j := 0) (q := 14) rfl rfl rfl rfl ?_
    refine ar_getf (v := .int (I_2 102 1)) (q := 17) rfl rfl mk_102 rfl rfl ?_
    refine ar_invs (as := [.int (I_2 102 1)]) (rest := []) (b2 := (0, 0)) (b3 := (0, 0)) (q := 20) rfl rfl rfl rfl rfl rfl rfl rfl rfl ?_
    refine am_meth_mono d _ _ _ _ _ (fun v9 m9 h9 => ?_) h
    obtain ⟨z_5, I_6, L_7, rfl, rfl, h⟩ := h9
    show am_Run am_X0 (am_meth d) 47 R 20 [some (.ref 102), some (.int (nI s)), some (.int (nI w)), some (.int z_1)] [.int z_5] (am_mk I_6 L_7, 0, 0)
    refine ar_iload_n (j := 1) (q := 21) rfl rfl rfl rfl ?_
    refine ar_invs (as := [.int (nI s)]) (rest := [.int z_5]) (b2 := (0, 0)) (b3 := (0, 0)) (q := 24) rfl rfl rfl rfl rfl rfl rfl rfl rfl ?_
    refine am_meth_mono d _ _ _ _ _ (fun v9 m9 h9 => ?_) h
    obtain ⟨z_8, I_9, L_10, rfl, rfl, h⟩ := h9
    show am_Run am_X0 (am_meth d) 47 R 24 [some (.ref 102), some (.int (nI s)), some (.int (nI w)), some (.int z_1)] [.int z_8, .int z_5] (am_mk I_9 L_10, 0, 0)
    refine ar_invs (as := [.int z_5, .int z_8]) (rest := []) (b2 := (0, 0)) (b3 := (0, 0)) (q := 27) rfl rfl rfl rfl rfl rfl rfl rfl rfl ?_
    refine am_meth_mono d _ _ _ _ _ (fun v9 m9 h9 => ?_) h
    obtain ⟨z_11, I_12, L_13, rfl, rfl, h⟩ := h9
    show am_Run am_X0 (am_meth d) 47 R 27 [some (.ref 102), some (.int (nI s)), some (.int (nI w)), some (.int z_1)] [.int z_11] (am_mk I_12 L_13, 0, 0)
    refine ar_istore_n (j := 3) (ls' := [some (.ref 102), some (.int (nI s)), some (.int (nI w)), some (.int z_11)]) (q := 28) rfl rfl rfl rfl rfl ?_
    refine ar_iload_n (j := 3) (q := 29) rfl rfl rfl rfl ?_
    obtain ⟨hA, hB⟩ := h
    refine ar_b0 am_c_ne (t := 41) (q := 32) rfl rfl rfl (fun c_14 => ?_) (fun c_14 => ?_)
    · have h := hB c_14
      clear hA hB
      refine ar_iload_n (j := 3) (q := 42) rfl rfl rfl rfl ?_
      obtain ⟨hA, hB⟩ := h
      refine ar_b0 am_c_le (t := 55) (q := 45) rfl rfl rfl (fun c_23 => ?_) (fun c_23 => ?_)
      · have h := hA c_23
        clear hA hB
        exact ar_vret rfl rfl h
      · have h := hB c_23
        clear hA hB
        refine ar_aload_n (j := 0) (q := 46) rfl rfl rfl rfl ?_
        refine ar_iload_n (j := 2) (q := 47) rfl rfl rfl rfl ?_
        obtain ⟨I_24, hI_25⟩ : ∃ z : Nat → Nat → Int32, z = va_up I_12 102 (upd (I_12 102) 0 (nI w)) := ⟨_, rfl⟩
        have h := h I_24 hI_25
        refine ar_putf (hp2 := am_mk I_24 L_13) (q := 50) rfl rfl mk_102 rfl (by rw [hI_25]; exact mk_p102_0) rfl ?_
        refine ar_aload_n (j := 0) (q := 51) rfl rfl rfl rfl ?_
        refine ar_iload_n (j := 1) (q := 52) rfl rfl rfl rfl ?_
        obtain ⟨I_26, hI_27⟩ : ∃ z : Nat → Nat → Int32, z = va_up I_24 102 (upd (I_24 102) 1 (nI s)) := ⟨_, rfl⟩
        have h := h I_26 hI_27
        refine ar_putf (hp2 := am_mk I_26 L_13) (q := 55) rfl rfl mk_102 rfl (by rw [hI_27]; exact mk_p102_1) rfl ?_
        exact ar_vret rfl rfl h
    · have c_14 := Classical.not_not.mp c_14
      have h := hA c_14
      clear hA hB
      refine ar_aload_n (j := 0) (q := 33) rfl rfl rfl rfl ?_
      refine ar_getf (v := .int (I_12 102 1)) (q := 36) rfl rfl mk_102 rfl rfl ?_
      refine ar_iload_n (j := 1) (q := 37) rfl rfl rfl rfl ?_
      refine ar_invs (as := [.int (I_12 102 1), .int (nI s)]) (rest := []) (b2 := (0, 0)) (b3 := (0, 0)) (q := 40) rfl rfl rfl rfl rfl rfl rfl rfl rfl ?_
      refine am_meth_mono d _ _ _ _ _ (fun v9 m9 h9 => ?_) h
      obtain ⟨z_15, I_16, L_17, rfl, rfl, h⟩ := h9
      show am_Run am_X0 (am_meth d) 47 R 40 [some (.ref 102), some (.int (nI s)), some (.int (nI w)), some (.int z_11)] [.int z_15] (am_mk I_16 L_17, 0, 0)
      refine ar_istore_n (j := 3) (ls' := [some (.ref 102), some (.int (nI s)), some (.int (nI w)), some (.int z_15)]) (q := 41) rfl rfl rfl rfl rfl ?_
      refine ar_iload_n (j := 3) (q := 42) rfl rfl rfl rfl ?_
      obtain ⟨hA, hB⟩ := h
      refine ar_b0 am_c_le (t := 55) (q := 45) rfl rfl rfl (fun c_18 => ?_) (fun c_18 => ?_)
      · have h := hA c_18
        clear hA hB
        exact ar_vret rfl rfl h
      · have h := hB c_18
        clear hA hB
        refine ar_aload_n (j := 0) (q := 46) rfl rfl rfl rfl ?_
        refine ar_iload_n (j := 2) (q := 47) rfl rfl rfl rfl ?_
        obtain ⟨I_19, hI_20⟩ : ∃ z : Nat → Nat → Int32, z = va_up I_16 102 (upd (I_16 102) 0 (nI w)) := ⟨_, rfl⟩
        have h := h I_19 hI_20
        refine ar_putf (hp2 := am_mk I_19 L_17) (q := 50) rfl rfl mk_102 rfl (by rw [hI_20]; exact mk_p102_0) rfl ?_
        refine ar_aload_n (j := 0) (q := 51) rfl rfl rfl rfl ?_
        refine ar_iload_n (j := 1) (q := 52) rfl rfl rfl rfl ?_
        obtain ⟨I_21, hI_22⟩ : ∃ z : Nat → Nat → Int32, z = va_up I_19 102 (upd (I_19 102) 1 (nI s)) := ⟨_, rfl⟩
        have h := h I_21 hI_22
        refine ar_putf (hp2 := am_mk I_21 L_17) (q := 55) rfl rfl mk_102 rfl (by rw [hI_22]; exact mk_p102_1) rfl ?_
        exact ar_vret rfl rfl h
theorem r_H_chain_0 {d : Nat} (hd : 1 ≤ d) {R : am_R} {I : Nat → Nat → Int32} {L : Nat → Nat → Int64} {k : Int32} {w : Int32} (h : ((0 ≤ k ∧ k < I 16 0 → (am_meth d 28 [.ref 0] (am_mk I L, 0, 0) (am_ri (fun z_2 I_3 L_4 => ((z_2 = 0 → (R (some (.int (-1 : Int32))) (am_mk (am_rf I_3 1) L_4, 0, 0))) ∧ (¬ z_2 = 0 → (((w = 0 → (am_meth d 29 [.ref 0] (am_mk I_3 L_4, 0, 0) (am_ri (fun z_7 I_8 L_9 => ((z_7 = 0 → (R (some (.int (-3 : Int32))) (am_mk (am_rf I_8 3) L_9, 0, 0))) ∧ (¬ z_7 = 0 → ((((I_8 95 0) ≤ 10 → (am_meth d 44 [.ref 102, .int k, .ref 95] (am_mk I_8 L_9, 0, 0) (am_rv (fun I_12 L_13 => R (some (.int (I_12 102 0))) (am_mk I_12 L_13, 0, 0))))) ∧ (¬ (I_8 95 0) ≤ 10 → (R (some (.int (-6 : Int32))) (am_mk (am_rf I_8 6) L_9, 0, 0))))))))))) ∧ (¬ w = 0 → (((w = 1 → (am_meth d 29 [.ref 0] (am_mk I_3 L_4, 0, 0) (am_ri (fun z_15 I_16 L_17 => ((z_15 = 0 → (R (some (.int (-3 : Int32))) (am_mk (am_rf I_16 3) L_17, 0, 0))) ∧ (¬ z_15 = 0 → ((((I_16 95 0) ≤ 10 → (am_meth d 44 [.ref 102, .int k, .ref 95] (am_mk I_16 L_17, 0, 0) (am_rv (fun I_20 L_21 => R (some (.int (I_20 102 1))) (am_mk I_20 L_21, 0, 0))))) ∧ (¬ (I_16 95 0) ≤ 10 → (R (some (.int (-6 : Int32))) (am_mk (am_rf I_16 6) L_17, 0, 0))))))))))) ∧ (¬ w = 1 → (R (some (.int (-2 : Int32))) (am_mk (am_rf I_3 2) L_4, 0, 0)))))))))))))) ∧ (¬ (0 ≤ k ∧ k < I 16 0) → (R (some (.int (-1 : Int32))) (am_mk (am_rf I 1) L, 0, 0))))) : am_Run am_X0 (am_meth d) 27 R 0 [some (.ref 0), some (.int k), some (.int w)] [] (am_mk I L, 0, 0) := by
  refine ar_aload_n (j := 0) (q := 1) rfl rfl rfl rfl ?_
  refine ar_getf (v := .ref 16) (q := 4) rfl rfl mk_0 rfl rfl ?_
  refine ar_iload_n (j := 1) (q := 5) rfl rfl rfl rfl ?_
  refine ar_invv (as := [.int k]) (rest := []) (b2 := (0, 0)) (b3 := (0, 0)) (q := 8) rfl rfl rfl rfl mk_16 rfl rfl rfl rfl rfl ?_
  obtain ⟨hA, hB⟩ := h
  refine ok_Ke_has (by omega)  (fun c_1 => ?_) (fun c_1 => ?_)
  · have h := hA c_1
    clear hA hB
    show am_Run am_X0 (am_meth d) 27 R 8 [some (.ref 0), some (.int k), some (.int w)] [.int 1] (am_mk I L, 0, 0)
    refine ar_b0 am_c_eq (t := 18) (q := 11) rfl rfl rfl (fun c9 => absurd c9 (by decide)) (fun _ => ?_)
    refine ar_aload_n (j := 0) (q := 12) rfl rfl rfl rfl ?_
    refine ar_invv (as := []) (rest := []) (b2 := (0, 0)) (b3 := (0, 0)) (q := 15) rfl rfl rfl rfl mk_0 rfl rfl rfl rfl rfl ?_
    refine am_meth_mono d _ _ _ _ _ (fun v9 m9 h9 => ?_) h
    obtain ⟨z_2, I_3, L_4, rfl, rfl, h⟩ := h9
    show am_Run am_X0 (am_meth d) 27 R 15 [some (.ref 0), some (.int k), some (.int w)] [.int z_2] (am_mk I_3 L_4, 0, 0)
    obtain ⟨hA, hB⟩ := h
    refine ar_b0 am_c_ne (t := 24) (q := 18) rfl rfl rfl (fun c_5 => ?_) (fun c_5 => ?_)
    · have h := hB c_5
      clear hA hB
      refine ar_iload_n (j := 2) (q := 25) rfl rfl rfl rfl ?_
      obtain ⟨hA, hB⟩ := h
      refine ar_b0 am_c_eq (t := 40) (q := 28) rfl rfl rfl (fun c_6 => ?_) (fun c_6 => ?_)
      · have h := hA c_6
        clear hA hB
        refine ar_aload_n (j := 0) (q := 41) rfl rfl rfl rfl ?_
        refine ar_invv (as := []) (rest := []) (b2 := (0, 0)) (b3 := (0, 0)) (q := 44) rfl rfl rfl rfl mk_0 rfl rfl rfl rfl rfl ?_
        refine am_meth_mono d _ _ _ _ _ (fun v9 m9 h9 => ?_) h
        obtain ⟨z_7, I_8, L_9, rfl, rfl, h⟩ := h9
        show am_Run am_X0 (am_meth d) 27 R 44 [some (.ref 0), some (.int k), some (.int w)] [.int z_7] (am_mk I_8 L_9, 0, 0)
        obtain ⟨hA, hB⟩ := h
        refine ar_b0 am_c_ne (t := 54) (q := 47) rfl rfl rfl (fun c_10 => ?_) (fun c_10 => ?_)
        · have h := hB c_10
          clear hA hB
          refine ar_aload_n (j := 0) (q := 55) rfl rfl rfl rfl ?_
          refine ar_getf (v := .ref 95) (q := 58) rfl rfl mk_0 rfl rfl ?_
          refine ar_getf (v := .int (I_8 95 0)) (q := 61) rfl rfl mk_95 rfl rfl ?_
          refine ar_bipush (v := 10) (q := 63) rfl rfl rfl ?_
          obtain ⟨hA, hB⟩ := h
          refine ar_br am_c_le (t := 73) (q := 66) rfl rfl rfl (fun c_11 => ?_) (fun c_11 => ?_)
          · have h := hA c_11
            clear hA hB
            refine ar_aload_n (j := 0) (q := 74) rfl rfl rfl rfl ?_
            refine ar_getf (v := .ref 102) (q := 77) rfl rfl mk_0 rfl rfl ?_
            refine ar_iload_n (j := 1) (q := 78) rfl rfl rfl rfl ?_
            refine ar_aload_n (j := 0) (q := 79) rfl rfl rfl rfl ?_
            refine ar_getf (v := .ref 95) (q := 82) rfl rfl mk_0 rfl rfl ?_
            refine ar_invv (as := [.int k, .ref 95]) (rest := []) (b2 := (0, 0)) (b3 := (0, 0)) (q := 85) rfl rfl rfl rfl mk_102 rfl rfl rfl rfl rfl ?_
            refine am_meth_mono d _ _ _ _ _ (fun v9 m9 h9 => ?_) h
            obtain ⟨I_12, L_13, rfl, rfl, h⟩ := h9
            show am_Run am_X0 (am_meth d) 27 R 85 [some (.ref 0), some (.int k), some (.int w)] [] (am_mk I_12 L_13, 0, 0)
            refine ar_iload_n (j := 2) (q := 86) rfl rfl rfl rfl ?_
            refine ar_b0 am_c_ne (t := 99) (q := 89) rfl rfl rfl (fun c9 => absurd c_6 c9) (fun _ => ?_)
            refine ar_aload_n (j := 0) (q := 90) rfl rfl rfl rfl ?_
            refine ar_getf (v := .ref 102) (q := 93) rfl rfl mk_0 rfl rfl ?_
            refine ar_getf (v := .int (I_12 102 0)) (q := 96) rfl rfl mk_102 rfl rfl ?_
            refine ar_goto (t := 106) rfl rfl ?_
            exact ar_iret rfl rfl h
          · have h := hB c_11
            clear hA hB
            refine ar_aload_n (j := 0) (q := 67) rfl rfl rfl rfl ?_
            refine ar_bipush (v := (-6 : Int32)) (q := 69) rfl rfl rfl ?_
            refine ar_invv (as := [.int (-6 : Int32)]) (rest := []) (b2 := (0, 0)) (b3 := (0, 0)) (q := 72) rfl rfl rfl rfl mk_0 rfl rfl rfl rfl rfl ?_
            refine ok_refuse (j := 6) (by omega) (by decide) (by decide) ?_
            show am_Run am_X0 (am_meth d) 27 R 72 [some (.ref 0), some (.int k), some (.int w)] [.int (-6 : Int32)] (am_mk (am_rf I_8 6) L_9, 0, 0)
            exact ar_iret rfl rfl h
        · have c_10 := Classical.not_not.mp c_10
          have h := hA c_10
          clear hA hB
          refine ar_aload_n (j := 0) (q := 48) rfl rfl rfl rfl ?_
          refine ar_bipush (v := (-3 : Int32)) (q := 50) rfl rfl rfl ?_
          refine ar_invv (as := [.int (-3 : Int32)]) (rest := []) (b2 := (0, 0)) (b3 := (0, 0)) (q := 53) rfl rfl rfl rfl mk_0 rfl rfl rfl rfl rfl ?_
          refine ok_refuse (j := 3) (by omega) (by decide) (by decide) ?_
          show am_Run am_X0 (am_meth d) 27 R 53 [some (.ref 0), some (.int k), some (.int w)] [.int (-3 : Int32)] (am_mk (am_rf I_8 3) L_9, 0, 0)
          exact ar_iret rfl rfl h
      · have h := hB c_6
        clear hA hB
        refine ar_iload_n (j := 2) (q := 29) rfl rfl rfl rfl ?_
        refine ar_iconst (v := 1) (q := 30) rfl rfl rfl ?_
        obtain ⟨hA, hB⟩ := h
        refine ar_br am_c_eq (t := 40) (q := 33) rfl rfl rfl (fun c_14 => ?_) (fun c_14 => ?_)
        · have h := hA c_14
          clear hA hB
          refine ar_aload_n (j := 0) (q := 41) rfl rfl rfl rfl ?_
          refine ar_invv (as := []) (rest := []) (b2 := (0, 0)) (b3 := (0, 0)) (q := 44) rfl rfl rfl rfl mk_0 rfl rfl rfl rfl rfl ?_
          refine am_meth_mono d _ _ _ _ _ (fun v9 m9 h9 => ?_) h
          obtain ⟨z_15, I_16, L_17, rfl, rfl, h⟩ := h9
          show am_Run am_X0 (am_meth d) 27 R 44 [some (.ref 0), some (.int k), some (.int w)] [.int z_15] (am_mk I_16 L_17, 0, 0)
          obtain ⟨hA, hB⟩ := h
          refine ar_b0 am_c_ne (t := 54) (q := 47) rfl rfl rfl (fun c_18 => ?_) (fun c_18 => ?_)
          · have h := hB c_18
            clear hA hB
            refine ar_aload_n (j := 0) (q := 55) rfl rfl rfl rfl ?_
            refine ar_getf (v := .ref 95) (q := 58) rfl rfl mk_0 rfl rfl ?_
            refine ar_getf (v := .int (I_16 95 0)) (q := 61) rfl rfl mk_95 rfl rfl ?_
            refine ar_bipush (v := 10) (q := 63) rfl rfl rfl ?_
            obtain ⟨hA, hB⟩ := h
            refine ar_br am_c_le (t := 73) (q := 66) rfl rfl rfl (fun c_19 => ?_) (fun c_19 => ?_)
            · have h := hA c_19
              clear hA hB
              refine ar_aload_n (j := 0) (q := 74) rfl rfl rfl rfl ?_
              refine ar_getf (v := .ref 102) (q := 77) rfl rfl mk_0 rfl rfl ?_
              refine ar_iload_n (j := 1) (q := 78) rfl rfl rfl rfl ?_
              refine ar_aload_n (j := 0) (q := 79) rfl rfl rfl rfl ?_
              refine ar_getf (v := .ref 95) (q := 82) rfl rfl mk_0 rfl rfl ?_
              refine ar_invv (as := [.int k, .ref 95]) (rest := []) (b2 := (0, 0)) (b3 := (0, 0)) (q := 85) rfl rfl rfl rfl mk_102 rfl rfl rfl rfl rfl ?_
              refine am_meth_mono d _ _ _ _ _ (fun v9 m9 h9 => ?_) h
              obtain ⟨I_20, L_21, rfl, rfl, h⟩ := h9
              show am_Run am_X0 (am_meth d) 27 R 85 [some (.ref 0), some (.int k), some (.int w)] [] (am_mk I_20 L_21, 0, 0)
              refine ar_iload_n (j := 2) (q := 86) rfl rfl rfl rfl ?_
              refine ar_b0 am_c_ne (t := 99) (q := 89) rfl rfl rfl (fun _ => ?_) (fun c9 => absurd c_6 c9)
              refine ar_aload_n (j := 0) (q := 100) rfl rfl rfl rfl ?_
              refine ar_getf (v := .ref 102) (q := 103) rfl rfl mk_0 rfl rfl ?_
              refine ar_getf (v := .int (I_20 102 1)) (q := 106) rfl rfl mk_102 rfl rfl ?_
              exact ar_iret rfl rfl h
            · have h := hB c_19
              clear hA hB
              refine ar_aload_n (j := 0) (q := 67) rfl rfl rfl rfl ?_
              refine ar_bipush (v := (-6 : Int32)) (q := 69) rfl rfl rfl ?_
              refine ar_invv (as := [.int (-6 : Int32)]) (rest := []) (b2 := (0, 0)) (b3 := (0, 0)) (q := 72) rfl rfl rfl rfl mk_0 rfl rfl rfl rfl rfl ?_
              refine ok_refuse (j := 6) (by omega) (by decide) (by decide) ?_
              show am_Run am_X0 (am_meth d) 27 R 72 [some (.ref 0), some (.int k), some (.int w)] [.int (-6 : Int32)] (am_mk (am_rf I_16 6) L_17, 0, 0)
              exact ar_iret rfl rfl h
          · have c_18 := Classical.not_not.mp c_18
            have h := hA c_18
            clear hA hB
            refine ar_aload_n (j := 0) (q := 48) rfl rfl rfl rfl ?_
            refine ar_bipush (v := (-3 : Int32)) (q := 50) rfl rfl rfl ?_
            refine ar_invv (as := [.int (-3 : Int32)]) (rest := []) (b2 := (0, 0)) (b3 := (0, 0)) (q := 53) rfl rfl rfl rfl mk_0 rfl rfl rfl rfl rfl ?_
            refine ok_refuse (j := 3) (by omega) (by decide) (by decide) ?_
            show am_Run am_X0 (am_meth d) 27 R 53 [some (.ref 0), some (.int k), some (.int w)] [.int (-3 : Int32)] (am_mk (am_rf I_16 3) L_17, 0, 0)
            exact ar_iret rfl rfl h
        · have h := hB c_14
          clear hA hB
          refine ar_aload_n (j := 0) (q := 34) rfl rfl rfl rfl ?_
          refine ar_bipush (v := (-2 : Int32)) (q := 36) rfl rfl rfl ?_
          refine ar_invv (as := [.int (-2 : Int32)]) (rest := []) (b2 := (0, 0)) (b3 := (0, 0)) (q := 39) rfl rfl rfl rfl mk_0 rfl rfl rfl rfl rfl ?_
          refine ok_refuse (j := 2) (by omega) (by decide) (by decide) ?_
          show am_Run am_X0 (am_meth d) 27 R 39 [some (.ref 0), some (.int k), some (.int w)] [.int (-2 : Int32)] (am_mk (am_rf I_3 2) L_4, 0, 0)
          exact ar_iret rfl rfl h
    · have c_5 := Classical.not_not.mp c_5
      have h := hA c_5
      clear hA hB
      refine ar_aload_n (j := 0) (q := 19) rfl rfl rfl rfl ?_
      refine ar_iconst (v := (-1 : Int32)) (q := 20) rfl rfl rfl ?_
      refine ar_invv (as := [.int (-1 : Int32)]) (rest := []) (b2 := (0, 0)) (b3 := (0, 0)) (q := 23) rfl rfl rfl rfl mk_0 rfl rfl rfl rfl rfl ?_
      refine ok_refuse (j := 1) (by omega) (by decide) (by decide) ?_
      show am_Run am_X0 (am_meth d) 27 R 23 [some (.ref 0), some (.int k), some (.int w)] [.int (-1 : Int32)] (am_mk (am_rf I_3 1) L_4, 0, 0)
      exact ar_iret rfl rfl h
  · have h := hB c_1
    clear hA hB
    show am_Run am_X0 (am_meth d) 27 R 8 [some (.ref 0), some (.int k), some (.int w)] [.int 0] (am_mk I L, 0, 0)
    refine ar_b0 am_c_eq (t := 18) (q := 11) rfl rfl rfl (fun _ => ?_) (fun c9 => absurd (by decide) c9)
    refine ar_aload_n (j := 0) (q := 19) rfl rfl rfl rfl ?_
    refine ar_iconst (v := (-1 : Int32)) (q := 20) rfl rfl rfl ?_
    refine ar_invv (as := [.int (-1 : Int32)]) (rest := []) (b2 := (0, 0)) (b3 := (0, 0)) (q := 23) rfl rfl rfl rfl mk_0 rfl rfl rfl rfl rfl ?_
    refine ok_refuse (j := 1) (by omega) (by decide) (by decide) ?_
    show am_Run am_X0 (am_meth d) 27 R 23 [some (.ref 0), some (.int k), some (.int w)] [.int (-1 : Int32)] (am_mk (am_rf I 1) L, 0, 0)
    exact ar_iret rfl rfl h
theorem r_M_sorts10_0 {d : Nat} {R : am_R} {I : Nat → Nat → Int32} {L : Nat → Nat → Int64} {x : Int32} (h : am_Run am_X0 (am_meth d) 211 R 4 [some (.ref 113), some (.int x), some (.int 0), some (.int 0)] [] (am_mk I L, 0, 0)) : am_Run am_X0 (am_meth d) 211 R 0 [some (.ref 113), some (.int x), none, none] [] (am_mk I L, 0, 0) := by
  refine ar_iconst (v := 0) (q := 1) rfl rfl rfl ?_
  refine ar_istore_n (j := 2) (ls' := [some (.ref 113), some (.int x), some (.int 0), none]) (q := 2) rfl rfl rfl rfl rfl ?_
  refine ar_iconst (v := 0) (q := 3) rfl rfl rfl ?_
  refine ar_istore_n (j := 3) (ls' := [some (.ref 113), some (.int x), some (.int 0), some (.int 0)]) (q := 4) rfl rfl rfl rfl rfl ?_
  exact am_Run.weak (ls' := _) (by exact ⟨rfl, ⟨rfl, ⟨rfl, ⟨rfl, trivial⟩⟩⟩⟩) h
theorem r_M_sorts10_4 {d : Nat} {R : am_R} {I : Nat → Nat → Int32} {L : Nat → Nat → Int64} {x : Int32} {sum : Int32} {j : Nat} (h : (((nI j) < 10 → (am_Run am_X0 (am_meth d) 211 R 4 [some (.ref 113), some (.int x), some (.int (sum + ((x >>> ((nI j) &&& 31)) &&& 1))), some (.int (nI (j + 1)))] [] (am_mk I L, 0, 0))) ∧ (¬ (nI j) < 10 → (R (some (.int sum)) (am_mk I L, 0, 0))))) : am_Run am_X0 (am_meth d) 211 R 4 [some (.ref 113), some (.int x), some (.int sum), some (.int (nI j))] [] (am_mk I L, 0, 0) := by
  refine ar_iload_n (j := 3) (q := 5) rfl rfl rfl rfl ?_
  refine ar_bipush (v := 10) (q := 7) rfl rfl rfl ?_
  obtain ⟨hA, hB⟩ := h
  refine ar_br am_d_ge (t := 24) (q := 10) rfl rfl rfl (fun c_1 => ?_) (fun c_1 => ?_)
  · have h := hB c_1
    clear hA hB
    refine ar_iload_n (j := 2) (q := 25) rfl rfl rfl rfl ?_
    exact ar_iret rfl rfl h
  · have c_1 := Classical.not_not.mp c_1
    have h := hA c_1
    clear hA hB
    refine ar_iload_n (j := 2) (q := 11) rfl rfl rfl rfl ?_
    refine ar_iload_n (j := 1) (q := 12) rfl rfl rfl rfl ?_
    refine ar_iload_n (j := 3) (q := 13) rfl rfl rfl rfl ?_
    refine ar_ib (i := .ishr) (z := x >>> ((nI j) &&& 31)) (q := 14) rfl rfl rfl rfl rfl ?_
    refine ar_iconst (v := 1) (q := 15) rfl rfl rfl ?_
    refine ar_ib (i := .iand) (z := (x >>> ((nI j) &&& 31)) &&& 1) (q := 16) rfl rfl rfl rfl rfl ?_
    refine ar_ib (i := .iadd) (z := sum + ((x >>> ((nI j) &&& 31)) &&& 1)) (q := 17) rfl rfl rfl rfl rfl ?_
    refine ar_istore_n (j := 2) (ls' := [some (.ref 113), some (.int x), some (.int (sum + ((x >>> ((nI j) &&& 31)) &&& 1))), some (.int (nI j))]) (q := 18) rfl rfl rfl rfl rfl ?_
    refine ar_iinc (v := nI (j + 1)) (ls' := [some (.ref 113), some (.int x), some (.int (sum + ((x >>> ((nI j) &&& 31)) &&& 1))), some (.int (nI (j + 1)))]) (q := 21) rfl rfl rfl (nI_1 _) rfl rfl ?_
    refine ar_goto (t := 4) rfl rfl ?_
    exact am_Run.weak (ls' := _) (by exact ⟨rfl, ⟨rfl, ⟨rfl, ⟨rfl, trivial⟩⟩⟩⟩) h
theorem r_M_sortRow_0 {d : Nat} {R : am_R} {I : Nat → Nat → Int32} {L : Nat → Nat → Int64}  (h : am_Run am_X0 (am_meth d) 210 R 2 [some (.ref 113), some (.int 0), none] [] (am_mk I L, 0, 0)) : am_Run am_X0 (am_meth d) 210 R 0 [some (.ref 113), none, none] [] (am_mk I L, 0, 0) := by
  refine ar_iconst (v := 0) (q := 1) rfl rfl rfl ?_
  refine ar_istore_n (j := 1) (ls' := [some (.ref 113), some (.int 0), none]) (q := 2) rfl rfl rfl rfl rfl ?_
  exact am_Run.weak (ls' := _) (by exact ⟨rfl, ⟨rfl, trivial⟩⟩) h
theorem r_M_sortRow_2 {d : Nat} {R : am_R} {I : Nat → Nat → Int32} {L : Nat → Nat → Int64} {j : Nat} (h : (((nI j) < (I 113 39) → (am_Run am_X0 (am_meth d) 210 R 12 [some (.ref 113), some (.int (nI j)), some (.int (nI j))] [] (am_mk I L, 0, 0))) ∧ (¬ (nI j) < (I 113 39) → (R none (am_mk I L, 0, 0))))) : am_Run am_X0 (am_meth d) 210 R 2 [some (.ref 113), some (.int (nI j)), none] [] (am_mk I L, 0, 0) := by
  refine ar_iload_n (j := 1) (q := 3) rfl rfl rfl rfl ?_
  refine ar_aload_n (j := 0) (q := 4) rfl rfl rfl rfl ?_
  refine ar_getf (v := .int (I 113 39)) (q := 7) rfl rfl mk_113 rfl rfl ?_
  obtain ⟨hA, hB⟩ := h
  refine ar_br am_d_ge (t := 81) (q := 10) rfl rfl rfl (fun c_1 => ?_) (fun c_1 => ?_)
  · have h := hB c_1
    clear hA hB
    exact ar_vret rfl rfl h
  · have c_1 := Classical.not_not.mp c_1
    have h := hA c_1
    clear hA hB
    refine ar_iload_n (j := 1) (q := 11) rfl rfl rfl rfl ?_
    refine ar_istore_n (j := 2) (ls' := [some (.ref 113), some (.int (nI j)), some (.int (nI j))]) (q := 12) rfl rfl rfl rfl rfl ?_
    exact am_Run.weak (ls' := _) (by exact ⟨rfl, ⟨rfl, ⟨rfl, trivial⟩⟩⟩) h
theorem r_M_sortRow_12 {d : Nat} {R : am_R} {I : Nat → Nat → Int32} {L : Nat → Nat → Int64} {j : Nat} {a : Nat} (h : (((nI a) ≤ 0 → (a < 10 ∧ (∀ I_3 : Nat → Nat → Int32, I_3 = va_up I 148 (upd (I 148) a (nI j)) → (am_Run am_X0 (am_meth d) 210 R 2 [some (.ref 113), some (.int (nI (j + 1))), none] [] (am_mk I_3 L, 0, 0))))) ∧ (¬ (nI a) ≤ 0 → (∃ j_5 : Nat, j_5 < 10 ∧ (nI a) - 1 = nI j_5 ∧ (∃ j_8 : Nat, j_8 < 12 ∧ I 148 j_5 = nI j_8 ∧ (∃ j_11 : Nat, j_11 < 60 ∧ I 146 j_8 = nI j_11 ∧ (j < 12 ∧ (∃ j_15 : Nat, j_15 < 60 ∧ I 146 j = nI j_15 ∧ ((((I 126 j_11) ≤ (I 126 j_15) → (a < 10 ∧ (∀ I_20 : Nat → Nat → Int32, I_20 = va_up I 148 (upd (I 148) a (nI j)) → (am_Run am_X0 (am_meth d) 210 R 2 [some (.ref 113), some (.int (nI (j + 1))), none] [] (am_mk I_20 L, 0, 0))))) ∧ (¬ (I 126 j_11) ≤ (I 126 j_15) → (a < 10 ∧ (∀ I_23 : Nat → Nat → Int32, I_23 = va_up I 148 (upd (I 148) a (I 148 j_5)) → (am_Run am_X0 (am_meth d) 210 R 12 [some (.ref 113), some (.int (nI j)), some (.int ((nI a) + (-1)))] [] (am_mk I_23 L, 0, 0))))))))))))))) : am_Run am_X0 (am_meth d) 210 R 12 [some (.ref 113), some (.int (nI j)), some (.int (nI a))] [] (am_mk I L, 0, 0) := by
  refine ar_iload_n (j := 2) (q := 13) rfl rfl rfl rfl ?_
  obtain ⟨hA, hB⟩ := h
  refine ar_b0 am_c_le (t := 68) (q := 16) rfl rfl rfl (fun c_1 => ?_) (fun c_1 => ?_)
  · have h := hA c_1
    clear hA hB
    refine ar_aload_n (j := 0) (q := 69) rfl rfl rfl rfl ?_
    refine ar_getf (v := .ref 148) (q := 72) rfl rfl mk_113 rfl rfl ?_
    refine ar_iload_n (j := 2) (q := 73) rfl rfl rfl rfl ?_
    refine ar_iload_n (j := 1) (q := 74) rfl rfl rfl rfl ?_
    obtain ⟨hx_2, h⟩ := h
    obtain ⟨I_3, hI_4⟩ : ∃ z : Nat → Nat → Int32, z = va_up I 148 (upd (I 148) a (nI j)) := ⟨_, rfl⟩
    have h := h I_3 hI_4
    refine ar_iast (hp2 := am_mk I_3 L) (q := 75) rfl mk_148 (am_inE rfl hx_2 (by decide)) (by rw [am_clT (n := 10) rfl hx_2 (by decide), hI_4]; exact mk_s148) rfl ?_
    refine ar_iinc (v := nI (j + 1)) (ls' := [some (.ref 113), some (.int (nI (j + 1))), some (.int (nI a))]) (q := 78) rfl rfl rfl (nI_1 _) rfl rfl ?_
    refine ar_goto (t := 2) rfl rfl ?_
    exact am_Run.weak (ls' := _) (by exact ⟨rfl, ⟨rfl, trivial⟩⟩) h
  · have h := hB c_1
    clear hA hB
    refine ar_aload_n (j := 0) (q := 17) rfl rfl rfl rfl ?_
    refine ar_getf (v := .ref 126) (q := 20) rfl rfl mk_113 rfl rfl ?_
    refine ar_aload_n (j := 0) (q := 21) rfl rfl rfl rfl ?_
    refine ar_getf (v := .ref 146) (q := 24) rfl rfl mk_113 rfl rfl ?_
    refine ar_aload_n (j := 0) (q := 25) rfl rfl rfl rfl ?_
    refine ar_getf (v := .ref 148) (q := 28) rfl rfl mk_113 rfl rfl ?_
    refine ar_iload_n (j := 2) (q := 29) rfl rfl rfl rfl ?_
    refine ar_iconst (v := 1) (q := 30) rfl rfl rfl ?_
    refine ar_ib (i := .isub) (z := (nI a) - 1) (q := 31) rfl rfl rfl rfl rfl ?_
    obtain ⟨j_5, hx_6, hi_7, h⟩ := h
    refine ar_iald (v := I 148 j_5) (q := 32) rfl mk_148 (am_inE hi_7 hx_6 (by decide)) (am_clE (n := 10) hi_7 hx_6 (by decide)) rfl ?_
    obtain ⟨j_8, hx_9, hi_10, h⟩ := h
    refine ar_iald (v := I 146 j_8) (q := 33) rfl mk_146 (am_inE hi_10 hx_9 (by decide)) (am_clE (n := 12) hi_10 hx_9 (by decide)) rfl ?_
    obtain ⟨j_11, hx_12, hi_13, h⟩ := h
    refine ar_iald (v := I 126 j_11) (q := 34) rfl mk_126 (am_inE hi_13 hx_12 (by decide)) (am_clE (n := 60) hi_13 hx_12 (by decide)) rfl ?_
    refine ar_aload_n (j := 0) (q := 35) rfl rfl rfl rfl ?_
    refine ar_getf (v := .ref 126) (q := 38) rfl rfl mk_113 rfl rfl ?_
    refine ar_aload_n (j := 0) (q := 39) rfl rfl rfl rfl ?_
    refine ar_getf (v := .ref 146) (q := 42) rfl rfl mk_113 rfl rfl ?_
    refine ar_iload_n (j := 1) (q := 43) rfl rfl rfl rfl ?_
    obtain ⟨hx_14, h⟩ := h
    refine ar_iald (v := I 146 j) (q := 44) rfl mk_146 (am_inE rfl hx_14 (by decide)) (am_clE (n := 12) rfl hx_14 (by decide)) rfl ?_
    obtain ⟨j_15, hx_16, hi_17, h⟩ := h
    refine ar_iald (v := I 126 j_15) (q := 45) rfl mk_126 (am_inE hi_17 hx_16 (by decide)) (am_clE (n := 60) hi_17 hx_16 (by decide)) rfl ?_
    obtain ⟨hA, hB⟩ := h
    refine ar_br am_c_le (t := 68) (q := 48) rfl rfl rfl (fun c_18 => ?_) (fun c_18 => ?_)
    · have h := hA c_18
      clear hA hB
      refine ar_aload_n (j := 0) (q := 69) rfl rfl rfl rfl ?_
      refine ar_getf (v := .ref 148) (q := 72) rfl rfl mk_113 rfl rfl ?_
      refine ar_iload_n (j := 2) (q := 73) rfl rfl rfl rfl ?_
      refine ar_iload_n (j := 1) (q := 74) rfl rfl rfl rfl ?_
      obtain ⟨hx_19, h⟩ := h
      obtain ⟨I_20, hI_21⟩ : ∃ z : Nat → Nat → Int32, z = va_up I 148 (upd (I 148) a (nI j)) := ⟨_, rfl⟩
      have h := h I_20 hI_21
      refine ar_iast (hp2 := am_mk I_20 L) (q := 75) rfl mk_148 (am_inE rfl hx_19 (by decide)) (by rw [am_clT (n := 10) rfl hx_19 (by decide), hI_21]; exact mk_s148) rfl ?_
      refine ar_iinc (v := nI (j + 1)) (ls' := [some (.ref 113), some (.int (nI (j + 1))), some (.int (nI a))]) (q := 78) rfl rfl rfl (nI_1 _) rfl rfl ?_
      refine ar_goto (t := 2) rfl rfl ?_
      exact am_Run.weak (ls' := _) (by exact ⟨rfl, ⟨rfl, trivial⟩⟩) h
    · have h := hB c_18
      clear hA hB
      refine ar_aload_n (j := 0) (q := 49) rfl rfl rfl rfl ?_
      refine ar_getf (v := .ref 148) (q := 52) rfl rfl mk_113 rfl rfl ?_
      refine ar_iload_n (j := 2) (q := 53) rfl rfl rfl rfl ?_
      refine ar_aload_n (j := 0) (q := 54) rfl rfl rfl rfl ?_
      refine ar_getf (v := .ref 148) (q := 57) rfl rfl mk_113 rfl rfl ?_
      refine ar_iload_n (j := 2) (q := 58) rfl rfl rfl rfl ?_
      refine ar_iconst (v := 1) (q := 59) rfl rfl rfl ?_
      refine ar_ib (i := .isub) (z := (nI a) - 1) (q := 60) rfl rfl rfl rfl rfl ?_
      refine ar_iald (v := I 148 j_5) (q := 61) rfl mk_148 (am_inE hi_7 hx_6 (by decide)) (am_clE (n := 10) hi_7 hx_6 (by decide)) rfl ?_
      obtain ⟨hx_22, h⟩ := h
      obtain ⟨I_23, hI_24⟩ : ∃ z : Nat → Nat → Int32, z = va_up I 148 (upd (I 148) a (I 148 j_5)) := ⟨_, rfl⟩
      have h := h I_23 hI_24
      refine ar_iast (hp2 := am_mk I_23 L) (q := 62) rfl mk_148 (am_inE rfl hx_22 (by decide)) (by rw [am_clT (n := 10) rfl hx_22 (by decide), hI_24]; exact mk_s148) rfl ?_
      refine ar_iinc (v := (nI a) + (-1)) (ls' := [some (.ref 113), some (.int (nI j)), some (.int ((nI a) + (-1)))]) (q := 65) rfl rfl rfl rfl rfl rfl ?_
      refine ar_goto (t := 12) rfl rfl ?_
      exact am_Run.weak (ls' := _) (by exact ⟨rfl, ⟨rfl, ⟨rfl, trivial⟩⟩⟩) h
theorem r_M_couldTake_0 {d : Nat} {R : am_R} {I : Nat → Nat → Int32} {L : Nat → Nat → Int64} {k : Nat} {s : Nat} (h : am_Run am_X0 (am_meth d) 212 R 5 [some (.ref 113), some (.int (nI k)), some (.int (nI s)), some (.int 1), some (.int 0), none] [] (am_mk I L, 0, 0)) : am_Run am_X0 (am_meth d) 212 R 0 [some (.ref 113), some (.int (nI k)), some (.int (nI s)), none, none, none] [] (am_mk I L, 0, 0) := by
  refine ar_iconst (v := 1) (q := 1) rfl rfl rfl ?_
  refine ar_istore_n (j := 3) (ls' := [some (.ref 113), some (.int (nI k)), some (.int (nI s)), some (.int 1), none, none]) (q := 2) rfl rfl rfl rfl rfl ?_
  refine ar_iconst (v := 0) (q := 3) rfl rfl rfl ?_
  refine ar_istore (ls' := [some (.ref 113), some (.int (nI k)), some (.int (nI s)), some (.int 1), some (.int 0), none]) (q := 5) rfl rfl rfl rfl ?_
  exact am_Run.weak (ls' := _) (by exact ⟨rfl, ⟨rfl, ⟨rfl, ⟨rfl, ⟨rfl, trivial⟩⟩⟩⟩⟩) h
theorem r_M_couldTake_5 {d : Nat} {R : am_R} {I : Nat → Nat → Int32} {L : Nat → Nat → Int64} {k : Nat} {s : Nat} {m : Int32} {j : Nat} (h : (((nI j) < (I 113 39) → (((m = 0 → (am_Run am_X0 (am_meth d) 212 R 97 [some (.ref 113), none, none, some (.int m), some (.int 0), none] [] (am_mk I L, 0, 0))) ∧ (¬ m = 0 → (j < 10 ∧ (∃ j_4 : Nat, j_4 < 12 ∧ I 148 j = nI j_4 ∧ ((((((nI s) >>> ((I 148 j) &&& 31)) &&& 1) = 0 → (am_Run am_X0 (am_meth d) 212 R 5 [some (.ref 113), some (.int (nI k)), some (.int (nI s)), some (.int m), some (.int (nI (j + 1))), none] [] (am_mk I L, 0, 0))) ∧ (¬ (((nI s) >>> ((I 148 j) &&& 31)) &&& 1) = 0 → (am_meth d 165 [.ref 113, .int (nI k), .int (I 146 j_4)] (am_mk I L, 0, 0) (am_ri (fun z_8 I_9 L_10 => ((z_8 = 0 → (∃ j_12 : Nat, j_12 < 60 ∧ I 146 j_4 = nI j_12 ∧ (∀ I_15 : Nat → Nat → Int32, I_15 = va_up I_9 128 (upd (I_9 128) j_12 1) → (∀ I_17 : Nat → Nat → Int32, I_17 = va_up I_15 129 (upd (I_15 129) j_12 (nI k)) → (am_Run am_X0 (am_meth d) 212 R 5 [some (.ref 113), some (.int (nI k)), some (.int (nI s)), some (.int 1), some (.int (nI (j + 1))), none] [] (am_mk I_17 L_10, 0, 0)))))) ∧ (¬ z_8 = 0 → (am_Run am_X0 (am_meth d) 212 R 5 [some (.ref 113), some (.int (nI k)), some (.int (nI s)), some (.int 0), some (.int (nI (j + 1))), none] [] (am_mk I_9 L_10, 0, 0)))))))))))))))) ∧ (¬ (nI j) < (I 113 39) → (am_Run am_X0 (am_meth d) 212 R 97 [some (.ref 113), none, none, some (.int m), some (.int 0), none] [] (am_mk I L, 0, 0))))) : am_Run am_X0 (am_meth d) 212 R 5 [some (.ref 113), some (.int (nI k)), some (.int (nI s)), some (.int m), some (.int (nI j)), none] [] (am_mk I L, 0, 0) := by
  refine ar_iload (q := 7) rfl rfl rfl ?_
  refine ar_aload_n (j := 0) (q := 8) rfl rfl rfl rfl ?_
  refine ar_getf (v := .int (I 113 39)) (q := 11) rfl rfl mk_113 rfl rfl ?_
  obtain ⟨hA, hB⟩ := h
  refine ar_br am_d_ge (t := 94) (q := 14) rfl rfl rfl (fun c_1 => ?_) (fun c_1 => ?_)
  · have h := hB c_1
    clear hA hB
    refine ar_iconst (v := 0) (q := 95) rfl rfl rfl ?_
    refine ar_istore (ls' := [some (.ref 113), some (.int (nI k)), some (.int (nI s)), some (.int m), some (.int 0), none]) (q := 97) rfl rfl rfl rfl ?_
    exact am_Run.weak (ls' := _) (by exact ⟨rfl, ⟨rfl, ⟨rfl, trivial⟩⟩⟩) h
  · have c_1 := Classical.not_not.mp c_1
    have h := hA c_1
    clear hA hB
    refine ar_iload_n (j := 3) (q := 15) rfl rfl rfl rfl ?_
    obtain ⟨hA, hB⟩ := h
    refine ar_b0 am_c_eq (t := 94) (q := 18) rfl rfl rfl (fun c_2 => ?_) (fun c_2 => ?_)
    · have h := hA c_2
      clear hA hB
      refine ar_iconst (v := 0) (q := 95) rfl rfl rfl ?_
      refine ar_istore (ls' := [some (.ref 113), some (.int (nI k)), some (.int (nI s)), some (.int m), some (.int 0), none]) (q := 97) rfl rfl rfl rfl ?_
      exact am_Run.weak (ls' := _) (by exact ⟨rfl, ⟨rfl, ⟨rfl, trivial⟩⟩⟩) h
    · have h := hB c_2
      clear hA hB
      refine ar_aload_n (j := 0) (q := 19) rfl rfl rfl rfl ?_
      refine ar_getf (v := .ref 146) (q := 22) rfl rfl mk_113 rfl rfl ?_
      refine ar_aload_n (j := 0) (q := 23) rfl rfl rfl rfl ?_
      refine ar_getf (v := .ref 148) (q := 26) rfl rfl mk_113 rfl rfl ?_
      refine ar_iload (q := 28) rfl rfl rfl ?_
      obtain ⟨hx_3, h⟩ := h
      refine ar_iald (v := I 148 j) (q := 29) rfl mk_148 (am_inE rfl hx_3 (by decide)) (am_clE (n := 10) rfl hx_3 (by decide)) rfl ?_
      obtain ⟨j_4, hx_5, hi_6, h⟩ := h
      refine ar_iald (v := I 146 j_4) (q := 30) rfl mk_146 (am_inE hi_6 hx_5 (by decide)) (am_clE (n := 12) hi_6 hx_5 (by decide)) rfl ?_
      refine ar_istore (ls' := [some (.ref 113), some (.int (nI k)), some (.int (nI s)), some (.int m), some (.int (nI j)), some (.int (I 146 j_4))]) (q := 32) rfl rfl rfl rfl ?_
      refine ar_iload_n (j := 2) (q := 33) rfl rfl rfl rfl ?_
      refine ar_aload_n (j := 0) (q := 34) rfl rfl rfl rfl ?_
      refine ar_getf (v := .ref 148) (q := 37) rfl rfl mk_113 rfl rfl ?_
      refine ar_iload (q := 39) rfl rfl rfl ?_
      refine ar_iald (v := I 148 j) (q := 40) rfl mk_148 (am_inE rfl hx_3 (by decide)) (am_clE (n := 10) rfl hx_3 (by decide)) rfl ?_
      refine ar_ib (i := .ishr) (z := (nI s) >>> ((I 148 j) &&& 31)) (q := 41) rfl rfl rfl rfl rfl ?_
      refine ar_iconst (v := 1) (q := 42) rfl rfl rfl ?_
      refine ar_ib (i := .iand) (z := ((nI s) >>> ((I 148 j) &&& 31)) &&& 1) (q := 43) rfl rfl rfl rfl rfl ?_
      obtain ⟨hA, hB⟩ := h
      refine ar_b0 am_c_ne (t := 49) (q := 46) rfl rfl rfl (fun c_7 => ?_) (fun c_7 => ?_)
      · have h := hB c_7
        clear hA hB
        refine ar_aload_n (j := 0) (q := 50) rfl rfl rfl rfl ?_
        refine ar_iload_n (j := 1) (q := 51) rfl rfl rfl rfl ?_
        refine ar_iload (q := 53) rfl rfl rfl ?_
        refine ar_invv (as := [.int (nI k), .int (I 146 j_4)]) (rest := []) (b2 := (0, 0)) (b3 := (0, 0)) (q := 56) rfl rfl rfl rfl mk_113 rfl rfl rfl rfl rfl ?_
        refine am_meth_mono d _ _ _ _ _ (fun v9 m9 h9 => ?_) h
        obtain ⟨z_8, I_9, L_10, rfl, rfl, h⟩ := h9
        show am_Run am_X0 (am_meth d) 212 R 56 [some (.ref 113), some (.int (nI k)), some (.int (nI s)), some (.int m), some (.int (nI j)), some (.int (I 146 j_4))] [.int z_8] (am_mk I_9 L_10, 0, 0)
        obtain ⟨hA, hB⟩ := h
        refine ar_b0 am_c_ne (t := 63) (q := 59) rfl rfl rfl (fun c_11 => ?_) (fun c_11 => ?_)
        · have h := hB c_11
          clear hA hB
          refine ar_iconst (v := 0) (q := 64) rfl rfl rfl ?_
          refine ar_istore_n (j := 3) (ls' := [some (.ref 113), some (.int (nI k)), some (.int (nI s)), some (.int 0), some (.int (nI j)), some (.int (I 146 j_4))]) (q := 65) rfl rfl rfl rfl rfl ?_
          refine ar_iload_n (j := 3) (q := 66) rfl rfl rfl rfl ?_
          refine ar_b0 am_c_ne (t := 72) (q := 69) rfl rfl rfl (fun c9 => absurd (by decide) c9) (fun _ => ?_)
          refine ar_goto (t := 88) rfl rfl ?_
          refine ar_iinc (v := nI (j + 1)) (ls' := [some (.ref 113), some (.int (nI k)), some (.int (nI s)), some (.int 0), some (.int (nI (j + 1))), some (.int (I 146 j_4))]) (q := 91) rfl rfl rfl (nI_1 _) rfl rfl ?_
          refine ar_goto (t := 5) rfl rfl ?_
          exact am_Run.weak (ls' := _) (by exact ⟨rfl, ⟨rfl, ⟨rfl, ⟨rfl, ⟨rfl, trivial⟩⟩⟩⟩⟩) h
        · have c_11 := Classical.not_not.mp c_11
          have h := hA c_11
          clear hA hB
          refine ar_iconst (v := 1) (q := 60) rfl rfl rfl ?_
          refine ar_goto (t := 64) rfl rfl ?_
          refine ar_istore_n (j := 3) (ls' := [some (.ref 113), some (.int (nI k)), some (.int (nI s)), some (.int 1), some (.int (nI j)), some (.int (I 146 j_4))]) (q := 65) rfl rfl rfl rfl rfl ?_
          refine ar_iload_n (j := 3) (q := 66) rfl rfl rfl rfl ?_
          refine ar_b0 am_c_ne (t := 72) (q := 69) rfl rfl rfl (fun _ => ?_) (fun c9 => absurd (by decide) c9)
          refine ar_aload_n (j := 0) (q := 73) rfl rfl rfl rfl ?_
          refine ar_getf (v := .ref 128) (q := 76) rfl rfl mk_113 rfl rfl ?_
          refine ar_iload (q := 78) rfl rfl rfl ?_
          refine ar_iconst (v := 1) (q := 79) rfl rfl rfl ?_
          obtain ⟨j_12, hx_13, hi_14, h⟩ := h
          obtain ⟨I_15, hI_16⟩ : ∃ z : Nat → Nat → Int32, z = va_up I_9 128 (upd (I_9 128) j_12 1) := ⟨_, rfl⟩
          have h := h I_15 hI_16
          refine ar_iast (hp2 := am_mk I_15 L_10) (q := 80) rfl mk_128 (am_inE hi_14 hx_13 (by decide)) (by rw [am_clT (n := 60) hi_14 hx_13 (by decide), hI_16]; exact mk_s128) rfl ?_
          refine ar_aload_n (j := 0) (q := 81) rfl rfl rfl rfl ?_
          refine ar_getf (v := .ref 129) (q := 84) rfl rfl mk_113 rfl rfl ?_
          refine ar_iload (q := 86) rfl rfl rfl ?_
          refine ar_iload_n (j := 1) (q := 87) rfl rfl rfl rfl ?_
          obtain ⟨I_17, hI_18⟩ : ∃ z : Nat → Nat → Int32, z = va_up I_15 129 (upd (I_15 129) j_12 (nI k)) := ⟨_, rfl⟩
          have h := h I_17 hI_18
          refine ar_iast (hp2 := am_mk I_17 L_10) (q := 88) rfl mk_129 (am_inE hi_14 hx_13 (by decide)) (by rw [am_clT (n := 60) hi_14 hx_13 (by decide), hI_18]; exact mk_s129) rfl ?_
          refine ar_iinc (v := nI (j + 1)) (ls' := [some (.ref 113), some (.int (nI k)), some (.int (nI s)), some (.int 1), some (.int (nI (j + 1))), some (.int (I 146 j_4))]) (q := 91) rfl rfl rfl (nI_1 _) rfl rfl ?_
          refine ar_goto (t := 5) rfl rfl ?_
          exact am_Run.weak (ls' := _) (by exact ⟨rfl, ⟨rfl, ⟨rfl, ⟨rfl, ⟨rfl, trivial⟩⟩⟩⟩⟩) h
      · have c_7 := Classical.not_not.mp c_7
        have h := hA c_7
        clear hA hB
        refine ar_goto (t := 88) rfl rfl ?_
        refine ar_iinc (v := nI (j + 1)) (ls' := [some (.ref 113), some (.int (nI k)), some (.int (nI s)), some (.int m), some (.int (nI (j + 1))), some (.int (I 146 j_4))]) (q := 91) rfl rfl rfl (nI_1 _) rfl rfl ?_
        refine ar_goto (t := 5) rfl rfl ?_
        exact am_Run.weak (ls' := _) (by exact ⟨rfl, ⟨rfl, ⟨rfl, ⟨rfl, ⟨rfl, trivial⟩⟩⟩⟩⟩) h
theorem r_M_couldTake_97 {d : Nat} {R : am_R} {I : Nat → Nat → Int32} {L : Nat → Nat → Int64} {m : Int32} {j : Nat} (h : (((nI j) < (I 113 39) → (j < 12 ∧ (∃ j_3 : Nat, j_3 < 60 ∧ I 146 j = nI j_3 ∧ (∀ I_6 : Nat → Nat → Int32, I_6 = va_up I 128 (upd (I 128) j_3 0) → (∃ j_8 : Nat, j_8 < 60 ∧ I_6 146 j = nI j_8 ∧ (∀ I_11 : Nat → Nat → Int32, I_11 = va_up I_6 129 (upd (I_6 129) j_8 (-9 : Int32)) → (am_Run am_X0 (am_meth d) 212 R 97 [some (.ref 113), none, none, some (.int m), some (.int (nI (j + 1))), none] [] (am_mk I_11 L, 0, 0)))))))) ∧ (¬ (nI j) < (I 113 39) → (((m = 0 ∨ m = 1) ∧ R (some (.int m)) (am_mk I L, 0, 0)))))) : am_Run am_X0 (am_meth d) 212 R 97 [some (.ref 113), none, none, some (.int m), some (.int (nI j)), none] [] (am_mk I L, 0, 0) := by
  refine ar_iload (q := 99) rfl rfl rfl ?_
  refine ar_aload_n (j := 0) (q := 100) rfl rfl rfl rfl ?_
  refine ar_getf (v := .int (I 113 39)) (q := 103) rfl rfl mk_113 rfl rfl ?_
  obtain ⟨hA, hB⟩ := h
  refine ar_br am_d_ge (t := 139) (q := 106) rfl rfl rfl (fun c_1 => ?_) (fun c_1 => ?_)
  · have h := hB c_1
    clear hA hB
    refine ar_iload_n (j := 3) (q := 140) rfl rfl rfl rfl ?_
    exact ar_zret rfl rfl h.1 h.2
  · have c_1 := Classical.not_not.mp c_1
    have h := hA c_1
    clear hA hB
    refine ar_aload_n (j := 0) (q := 107) rfl rfl rfl rfl ?_
    refine ar_getf (v := .ref 128) (q := 110) rfl rfl mk_113 rfl rfl ?_
    refine ar_aload_n (j := 0) (q := 111) rfl rfl rfl rfl ?_
    refine ar_getf (v := .ref 146) (q := 114) rfl rfl mk_113 rfl rfl ?_
    refine ar_iload (q := 116) rfl rfl rfl ?_
    obtain ⟨hx_2, h⟩ := h
    refine ar_iald (v := I 146 j) (q := 117) rfl mk_146 (am_inE rfl hx_2 (by decide)) (am_clE (n := 12) rfl hx_2 (by decide)) rfl ?_
    refine ar_iconst (v := 0) (q := 118) rfl rfl rfl ?_
    obtain ⟨j_3, hx_4, hi_5, h⟩ := h
    obtain ⟨I_6, hI_7⟩ : ∃ z : Nat → Nat → Int32, z = va_up I 128 (upd (I 128) j_3 0) := ⟨_, rfl⟩
    have h := h I_6 hI_7
    refine ar_iast (hp2 := am_mk I_6 L) (q := 119) rfl mk_128 (am_inE hi_5 hx_4 (by decide)) (by rw [am_clT (n := 60) hi_5 hx_4 (by decide), hI_7]; exact mk_s128) rfl ?_
    refine ar_aload_n (j := 0) (q := 120) rfl rfl rfl rfl ?_
    refine ar_getf (v := .ref 129) (q := 123) rfl rfl mk_113 rfl rfl ?_
    refine ar_aload_n (j := 0) (q := 124) rfl rfl rfl rfl ?_
    refine ar_getf (v := .ref 146) (q := 127) rfl rfl mk_113 rfl rfl ?_
    refine ar_iload (q := 129) rfl rfl rfl ?_
    refine ar_iald (v := I_6 146 j) (q := 130) rfl mk_146 (am_inE rfl hx_2 (by decide)) (am_clE (n := 12) rfl hx_2 (by decide)) rfl ?_
    refine ar_bipush (v := (-9 : Int32)) (q := 132) rfl rfl rfl ?_
    obtain ⟨j_8, hx_9, hi_10, h⟩ := h
    obtain ⟨I_11, hI_12⟩ : ∃ z : Nat → Nat → Int32, z = va_up I_6 129 (upd (I_6 129) j_8 (-9 : Int32)) := ⟨_, rfl⟩
    have h := h I_11 hI_12
    refine ar_iast (hp2 := am_mk I_11 L) (q := 133) rfl mk_129 (am_inE hi_10 hx_9 (by decide)) (by rw [am_clT (n := 60) hi_10 hx_9 (by decide), hI_12]; exact mk_s129) rfl ?_
    refine ar_iinc (v := nI (j + 1)) (ls' := [some (.ref 113), none, none, some (.int m), some (.int (nI (j + 1))), none]) (q := 136) rfl rfl rfl (nI_1 _) rfl rfl ?_
    refine ar_goto (t := 97) rfl rfl ?_
    exact am_Run.weak (ls' := _) (by exact ⟨rfl, ⟨rfl, ⟨rfl, trivial⟩⟩⟩) h
theorem r_M_chain_0 {d : Nat} (hd : 1 ≤ d) {R : am_R} {I : Nat → Nat → Int32} {L : Nat → Nat → Int64} {k : Int32} {w : Int32} (h : ((0 ≤ k ∧ k < I 113 4 → (am_meth d 208 [.ref 113] (am_mk I L, 0, 0) (am_ri (fun z_2 I_3 L_4 => ((z_2 = 0 → (R (some (.int (-1 : Int32))) (am_mk (am_no I_3 1) L_4, 0, 0))) ∧ (¬ z_2 = 0 → (((w < 0 → (R (some (.int (-2 : Int32))) (am_mk (am_no I_3 2) L_4, 0, 0))) ∧ (¬ w < 0 → (((w ≤ 1 → (am_meth d 209 [.ref 113] (am_mk I_3 L_4, 0, 0) (am_ri (fun z_8 I_9 L_10 => ((z_8 = 0 → (R (some (.int (-3 : Int32))) (am_mk (am_no I_9 3) L_10, 0, 0))) ∧ (¬ z_8 = 0 → ((((I_9 113 39) ≤ 10 → (am_meth d 210 [.ref 113] (am_mk I_9 L_10, 0, 0) (am_rv (fun I_13 L_14 => am_Run am_X0 (am_meth d) 207 R 79 [some (.ref 113), some (.int k), some (.int w), some (.int 0), some (.int 0), some (.int 1), none, none] [] (am_mk I_13 L_14, 0, 0))))) ∧ (¬ (I_9 113 39) ≤ 10 → (R (some (.int (-6 : Int32))) (am_mk (am_no I_9 6) L_10, 0, 0))))))))))) ∧ (¬ w ≤ 1 → (R (some (.int (-2 : Int32))) (am_mk (am_no I_3 2) L_4, 0, 0)))))))))))))) ∧ (¬ (0 ≤ k ∧ k < I 113 4) → (R (some (.int (-1 : Int32))) (am_mk (am_no I 1) L, 0, 0))))) : am_Run am_X0 (am_meth d) 207 R 0 [some (.ref 113), some (.int k), some (.int w), none, none, none, none, none] [] (am_mk I L, 0, 0) := by
  refine ar_aload_n (j := 0) (q := 1) rfl rfl rfl rfl ?_
  refine ar_iload_n (j := 1) (q := 2) rfl rfl rfl rfl ?_
  refine ar_invv (as := [.int k]) (rest := []) (b2 := (0, 0)) (b3 := (0, 0)) (q := 5) rfl rfl rfl rfl mk_113 rfl rfl rfl rfl rfl ?_
  obtain ⟨hA, hB⟩ := h
  refine ok_M_isKeeper (by omega)  (fun c_1 => ?_) (fun c_1 => ?_)
  · have h := hA c_1
    clear hA hB
    show am_Run am_X0 (am_meth d) 207 R 5 [some (.ref 113), some (.int k), some (.int w), none, none, none, none, none] [.int 1] (am_mk I L, 0, 0)
    refine ar_b0 am_c_eq (t := 15) (q := 8) rfl rfl rfl (fun c9 => absurd c9 (by decide)) (fun _ => ?_)
    refine ar_aload_n (j := 0) (q := 9) rfl rfl rfl rfl ?_
    refine ar_invv (as := []) (rest := []) (b2 := (0, 0)) (b3 := (0, 0)) (q := 12) rfl rfl rfl rfl mk_113 rfl rfl rfl rfl rfl ?_
    refine am_meth_mono d _ _ _ _ _ (fun v9 m9 h9 => ?_) h
    obtain ⟨z_2, I_3, L_4, rfl, rfl, h⟩ := h9
    show am_Run am_X0 (am_meth d) 207 R 12 [some (.ref 113), some (.int k), some (.int w), none, none, none, none, none] [.int z_2] (am_mk I_3 L_4, 0, 0)
    obtain ⟨hA, hB⟩ := h
    refine ar_b0 am_c_ne (t := 21) (q := 15) rfl rfl rfl (fun c_5 => ?_) (fun c_5 => ?_)
    · have h := hB c_5
      clear hA hB
      refine ar_iload_n (j := 2) (q := 22) rfl rfl rfl rfl ?_
      obtain ⟨hA, hB⟩ := h
      refine ar_b0 am_c_lt (t := 30) (q := 25) rfl rfl rfl (fun c_6 => ?_) (fun c_6 => ?_)
      · have h := hA c_6
        clear hA hB
        refine ar_aload_n (j := 0) (q := 31) rfl rfl rfl rfl ?_
        refine ar_bipush (v := (-2 : Int32)) (q := 33) rfl rfl rfl ?_
        refine ar_invv (as := [.int (-2 : Int32)]) (rest := []) (b2 := (0, 0)) (b3 := (0, 0)) (q := 36) rfl rfl rfl rfl mk_113 rfl rfl rfl rfl rfl ?_
        refine ok_no (j := 2) (by omega) (by decide) (by decide) ?_
        show am_Run am_X0 (am_meth d) 207 R 36 [some (.ref 113), some (.int k), some (.int w), none, none, none, none, none] [.int (-2 : Int32)] (am_mk (am_no I_3 2) L_4, 0, 0)
        exact ar_iret rfl rfl h
      · have h := hB c_6
        clear hA hB
        refine ar_iload_n (j := 2) (q := 26) rfl rfl rfl rfl ?_
        refine ar_iconst (v := 1) (q := 27) rfl rfl rfl ?_
        obtain ⟨hA, hB⟩ := h
        refine ar_br am_c_le (t := 37) (q := 30) rfl rfl rfl (fun c_7 => ?_) (fun c_7 => ?_)
        · have h := hA c_7
          clear hA hB
          refine ar_aload_n (j := 0) (q := 38) rfl rfl rfl rfl ?_
          refine ar_invv (as := []) (rest := []) (b2 := (0, 0)) (b3 := (0, 0)) (q := 41) rfl rfl rfl rfl mk_113 rfl rfl rfl rfl rfl ?_
          refine am_meth_mono d _ _ _ _ _ (fun v9 m9 h9 => ?_) h
          obtain ⟨z_8, I_9, L_10, rfl, rfl, h⟩ := h9
          show am_Run am_X0 (am_meth d) 207 R 41 [some (.ref 113), some (.int k), some (.int w), none, none, none, none, none] [.int z_8] (am_mk I_9 L_10, 0, 0)
          obtain ⟨hA, hB⟩ := h
          refine ar_b0 am_c_ne (t := 51) (q := 44) rfl rfl rfl (fun c_11 => ?_) (fun c_11 => ?_)
          · have h := hB c_11
            clear hA hB
            refine ar_aload_n (j := 0) (q := 52) rfl rfl rfl rfl ?_
            refine ar_getf (v := .int (I_9 113 39)) (q := 55) rfl rfl mk_113 rfl rfl ?_
            refine ar_bipush (v := 10) (q := 57) rfl rfl rfl ?_
            obtain ⟨hA, hB⟩ := h
            refine ar_br am_c_le (t := 67) (q := 60) rfl rfl rfl (fun c_12 => ?_) (fun c_12 => ?_)
            · have h := hA c_12
              clear hA hB
              refine ar_aload_n (j := 0) (q := 68) rfl rfl rfl rfl ?_
              refine ar_invv (as := []) (rest := []) (b2 := (0, 0)) (b3 := (0, 0)) (q := 71) rfl rfl rfl rfl mk_113 rfl rfl rfl rfl rfl ?_
              refine am_meth_mono d _ _ _ _ _ (fun v9 m9 h9 => ?_) h
              obtain ⟨I_13, L_14, rfl, rfl, h⟩ := h9
              show am_Run am_X0 (am_meth d) 207 R 71 [some (.ref 113), some (.int k), some (.int w), none, none, none, none, none] [] (am_mk I_13 L_14, 0, 0)
              refine ar_iconst (v := 0) (q := 72) rfl rfl rfl ?_
              refine ar_istore_n (j := 3) (ls' := [some (.ref 113), some (.int k), some (.int w), some (.int 0), none, none, none, none]) (q := 73) rfl rfl rfl rfl rfl ?_
              refine ar_iconst (v := 0) (q := 74) rfl rfl rfl ?_
              refine ar_istore (ls' := [some (.ref 113), some (.int k), some (.int w), some (.int 0), some (.int 0), none, none, none]) (q := 76) rfl rfl rfl rfl ?_
              refine ar_iconst (v := 1) (q := 77) rfl rfl rfl ?_
              refine ar_istore (ls' := [some (.ref 113), some (.int k), some (.int w), some (.int 0), some (.int 0), some (.int 1), none, none]) (q := 79) rfl rfl rfl rfl ?_
              exact am_Run.weak (ls' := _) (by exact ⟨rfl, ⟨rfl, ⟨rfl, ⟨rfl, ⟨rfl, ⟨rfl, trivial⟩⟩⟩⟩⟩⟩) h
            · have h := hB c_12
              clear hA hB
              refine ar_aload_n (j := 0) (q := 61) rfl rfl rfl rfl ?_
              refine ar_bipush (v := (-6 : Int32)) (q := 63) rfl rfl rfl ?_
              refine ar_invv (as := [.int (-6 : Int32)]) (rest := []) (b2 := (0, 0)) (b3 := (0, 0)) (q := 66) rfl rfl rfl rfl mk_113 rfl rfl rfl rfl rfl ?_
              refine ok_no (j := 6) (by omega) (by decide) (by decide) ?_
              show am_Run am_X0 (am_meth d) 207 R 66 [some (.ref 113), some (.int k), some (.int w), none, none, none, none, none] [.int (-6 : Int32)] (am_mk (am_no I_9 6) L_10, 0, 0)
              exact ar_iret rfl rfl h
          · have c_11 := Classical.not_not.mp c_11
            have h := hA c_11
            clear hA hB
            refine ar_aload_n (j := 0) (q := 45) rfl rfl rfl rfl ?_
            refine ar_bipush (v := (-3 : Int32)) (q := 47) rfl rfl rfl ?_
            refine ar_invv (as := [.int (-3 : Int32)]) (rest := []) (b2 := (0, 0)) (b3 := (0, 0)) (q := 50) rfl rfl rfl rfl mk_113 rfl rfl rfl rfl rfl ?_
            refine ok_no (j := 3) (by omega) (by decide) (by decide) ?_
            show am_Run am_X0 (am_meth d) 207 R 50 [some (.ref 113), some (.int k), some (.int w), none, none, none, none, none] [.int (-3 : Int32)] (am_mk (am_no I_9 3) L_10, 0, 0)
            exact ar_iret rfl rfl h
        · have h := hB c_7
          clear hA hB
          refine ar_aload_n (j := 0) (q := 31) rfl rfl rfl rfl ?_
          refine ar_bipush (v := (-2 : Int32)) (q := 33) rfl rfl rfl ?_
          refine ar_invv (as := [.int (-2 : Int32)]) (rest := []) (b2 := (0, 0)) (b3 := (0, 0)) (q := 36) rfl rfl rfl rfl mk_113 rfl rfl rfl rfl rfl ?_
          refine ok_no (j := 2) (by omega) (by decide) (by decide) ?_
          show am_Run am_X0 (am_meth d) 207 R 36 [some (.ref 113), some (.int k), some (.int w), none, none, none, none, none] [.int (-2 : Int32)] (am_mk (am_no I_3 2) L_4, 0, 0)
          exact ar_iret rfl rfl h
    · have c_5 := Classical.not_not.mp c_5
      have h := hA c_5
      clear hA hB
      refine ar_aload_n (j := 0) (q := 16) rfl rfl rfl rfl ?_
      refine ar_iconst (v := (-1 : Int32)) (q := 17) rfl rfl rfl ?_
      refine ar_invv (as := [.int (-1 : Int32)]) (rest := []) (b2 := (0, 0)) (b3 := (0, 0)) (q := 20) rfl rfl rfl rfl mk_113 rfl rfl rfl rfl rfl ?_
      refine ok_no (j := 1) (by omega) (by decide) (by decide) ?_
      show am_Run am_X0 (am_meth d) 207 R 20 [some (.ref 113), some (.int k), some (.int w), none, none, none, none, none] [.int (-1 : Int32)] (am_mk (am_no I_3 1) L_4, 0, 0)
      exact ar_iret rfl rfl h
  · have h := hB c_1
    clear hA hB
    show am_Run am_X0 (am_meth d) 207 R 5 [some (.ref 113), some (.int k), some (.int w), none, none, none, none, none] [.int 0] (am_mk I L, 0, 0)
    refine ar_b0 am_c_eq (t := 15) (q := 8) rfl rfl rfl (fun _ => ?_) (fun c9 => absurd (by decide) c9)
    refine ar_aload_n (j := 0) (q := 16) rfl rfl rfl rfl ?_
    refine ar_iconst (v := (-1 : Int32)) (q := 17) rfl rfl rfl ?_
    refine ar_invv (as := [.int (-1 : Int32)]) (rest := []) (b2 := (0, 0)) (b3 := (0, 0)) (q := 20) rfl rfl rfl rfl mk_113 rfl rfl rfl rfl rfl ?_
    refine ok_no (j := 1) (by omega) (by decide) (by decide) ?_
    show am_Run am_X0 (am_meth d) 207 R 20 [some (.ref 113), some (.int k), some (.int w), none, none, none, none, none] [.int (-1 : Int32)] (am_mk (am_no I 1) L, 0, 0)
    exact ar_iret rfl rfl h
theorem r_M_chain_79 {d : Nat} {R : am_R} {I : Nat → Nat → Int32} {L : Nat → Nat → Int64} {k : Int32} {w : Int32} {b : Nat} {z : Nat} {s : Nat} (h : (((nI s) < (1 <<< ((I 113 39) &&& 31)) → (am_Run am_X0 (am_meth d) 207 R 96 [some (.ref 113), some (.int k), some (.int w), some (.int (nI b)), some (.int (nI z)), some (.int (nI s)), some (.int 0), some (.int 0)] [] (am_mk I L, 0, 0))) ∧ (¬ (nI s) < (1 <<< ((I 113 39) &&& 31)) → (((w = 0 → (R (some (.int (nI z))) (am_mk I L, 0, 0))) ∧ (¬ w = 0 → (R (some (.int (nI b))) (am_mk I L, 0, 0)))))))) : am_Run am_X0 (am_meth d) 207 R 79 [some (.ref 113), some (.int k), some (.int w), some (.int (nI b)), some (.int (nI z)), some (.int (nI s)), none, none] [] (am_mk I L, 0, 0) := by
  refine ar_iload (q := 81) rfl rfl rfl ?_
  refine ar_iconst (v := 1) (q := 82) rfl rfl rfl ?_
  refine ar_aload_n (j := 0) (q := 83) rfl rfl rfl rfl ?_
  refine ar_getf (v := .int (I 113 39)) (q := 86) rfl rfl mk_113 rfl rfl ?_
  refine ar_ib (i := .ishl) (z := 1 <<< ((I 113 39) &&& 31)) (q := 87) rfl rfl rfl rfl rfl ?_
  obtain ⟨hA, hB⟩ := h
  refine ar_br am_d_ge (t := 208) (q := 90) rfl rfl rfl (fun c_1 => ?_) (fun c_1 => ?_)
  · have h := hB c_1
    clear hA hB
    refine ar_iload_n (j := 2) (q := 209) rfl rfl rfl rfl ?_
    obtain ⟨hA, hB⟩ := h
    refine ar_b0 am_c_ne (t := 217) (q := 212) rfl rfl rfl (fun c_2 => ?_) (fun c_2 => ?_)
    · have h := hB c_2
      clear hA hB
      refine ar_iload_n (j := 3) (q := 218) rfl rfl rfl rfl ?_
      exact ar_iret rfl rfl h
    · have c_2 := Classical.not_not.mp c_2
      have h := hA c_2
      clear hA hB
      refine ar_iload (q := 214) rfl rfl rfl ?_
      refine ar_goto (t := 218) rfl rfl ?_
      exact ar_iret rfl rfl h
  · have c_1 := Classical.not_not.mp c_1
    have h := hA c_1
    clear hA hB
    refine ar_iconst (v := 0) (q := 91) rfl rfl rfl ?_
    refine ar_istore (ls' := [some (.ref 113), some (.int k), some (.int w), some (.int (nI b)), some (.int (nI z)), some (.int (nI s)), some (.int 0), none]) (q := 93) rfl rfl rfl rfl ?_
    refine ar_iconst (v := 0) (q := 94) rfl rfl rfl ?_
    refine ar_istore (ls' := [some (.ref 113), some (.int k), some (.int w), some (.int (nI b)), some (.int (nI z)), some (.int (nI s)), some (.int 0), some (.int 0)]) (q := 96) rfl rfl rfl rfl ?_
    exact am_Run.weak (ls' := _) (by exact ⟨rfl, ⟨rfl, ⟨rfl, ⟨rfl, ⟨rfl, ⟨rfl, ⟨rfl, ⟨rfl, trivial⟩⟩⟩⟩⟩⟩⟩⟩) h
theorem r_M_chain_96 {d : Nat} {R : am_R} {I : Nat → Nat → Int32} {L : Nat → Nat → Int64} {k : Int32} {w : Int32} {b : Nat} {z : Nat} {s : Nat} {y : Nat} {j : Nat} (h : (((nI j) < (I 113 39) → ((((((nI s) >>> ((nI j) &&& 31)) &&& 1) = 1 → (j < 12 ∧ (∃ j_4 : Nat, j_4 < 60 ∧ I 146 j = nI j_4 ∧ (am_Run am_X0 (am_meth d) 207 R 96 [some (.ref 113), some (.int k), some (.int w), some (.int (nI b)), some (.int (nI z)), some (.int (nI s)), some (.int ((nI y) + (((I 127 j_4) - (I 126 j_4)) + 1))), some (.int (nI (j + 1)))] [] (am_mk I L, 0, 0))))) ∧ (¬ (((nI s) >>> ((nI j) &&& 31)) &&& 1) = 1 → (am_Run am_X0 (am_meth d) 207 R 96 [some (.ref 113), some (.int k), some (.int w), some (.int (nI b)), some (.int (nI z)), some (.int (nI s)), some (.int (nI y)), some (.int (nI (j + 1)))] [] (am_mk I L, 0, 0)))))) ∧ (¬ (nI j) < (I 113 39) → ((((nI y) < (nI z) → (am_Run am_X0 (am_meth d) 207 R 79 [some (.ref 113), some (.int k), some (.int w), some (.int (nI b)), some (.int (nI z)), some (.int (nI (s + 1))), none, none] [] (am_mk I L, 0, 0))) ∧ (¬ (nI y) < (nI z) → ((((nI y) = (nI z) → (am_meth d 211 [.ref 113, .int (nI s)] (am_mk I L, 0, 0) (am_ri (fun z_9 I_10 L_11 => am_meth d 211 [.ref 113, .int (nI b)] (am_mk I_10 L_11, 0, 0) (am_ri (fun z_12 I_13 L_14 => ((z_9 < z_12 → (am_meth d 212 [.ref 113, .int k, .int (nI s)] (am_mk I_13 L_14, 0, 0) (am_ri (fun z_16 I_17 L_18 => ((z_16 = 0 → (am_Run am_X0 (am_meth d) 207 R 79 [some (.ref 113), some (.int k), some (.int w), some (.int (nI b)), some (.int (nI z)), some (.int (nI (s + 1))), none, none] [] (am_mk I_17 L_18, 0, 0))) ∧ (¬ z_16 = 0 → (am_Run am_X0 (am_meth d) 207 R 79 [some (.ref 113), some (.int k), some (.int w), some (.int (nI s)), some (.int (nI y)), some (.int (nI (s + 1))), none, none] [] (am_mk I_17 L_18, 0, 0)))))))) ∧ (¬ z_9 < z_12 → (am_Run am_X0 (am_meth d) 207 R 79 [some (.ref 113), some (.int k), some (.int w), some (.int (nI b)), some (.int (nI z)), some (.int (nI (s + 1))), none, none] [] (am_mk I_13 L_14, 0, 0)))))))))) ∧ (¬ (nI y) = (nI z) → (am_meth d 212 [.ref 113, .int k, .int (nI s)] (am_mk I L, 0, 0) (am_ri (fun z_20 I_21 L_22 => ((z_20 = 0 → (am_Run am_X0 (am_meth d) 207 R 79 [some (.ref 113), some (.int k), some (.int w), some (.int (nI b)), some (.int (nI z)), some (.int (nI (s + 1))), none, none] [] (am_mk I_21 L_22, 0, 0))) ∧ (¬ z_20 = 0 → (am_Run am_X0 (am_meth d) 207 R 79 [some (.ref 113), some (.int k), some (.int w), some (.int (nI s)), some (.int (nI y)), some (.int (nI (s + 1))), none, none] [] (am_mk I_21 L_22, 0, 0)))))))))))))))) : am_Run am_X0 (am_meth d) 207 R 96 [some (.ref 113), some (.int k), some (.int w), some (.int (nI b)), some (.int (nI z)), some (.int (nI s)), some (.int (nI y)), some (.int (nI j))] [] (am_mk I L, 0, 0) := by
  refine ar_iload (q := 98) rfl rfl rfl ?_
  refine ar_aload_n (j := 0) (q := 99) rfl rfl rfl rfl ?_
  refine ar_getf (v := .int (I 113 39)) (q := 102) rfl rfl mk_113 rfl rfl ?_
  obtain ⟨hA, hB⟩ := h
  refine ar_br am_d_ge (t := 154) (q := 105) rfl rfl rfl (fun c_1 => ?_) (fun c_1 => ?_)
  · have h := hB c_1
    clear hA hB
    refine ar_iload (q := 156) rfl rfl rfl ?_
    refine ar_iload (q := 158) rfl rfl rfl ?_
    obtain ⟨hA, hB⟩ := h
    refine ar_br am_c_lt (t := 202) (q := 161) rfl rfl rfl (fun c_7 => ?_) (fun c_7 => ?_)
    · have h := hA c_7
      clear hA hB
      refine ar_iinc (v := nI (s + 1)) (ls' := [some (.ref 113), some (.int k), some (.int w), some (.int (nI b)), some (.int (nI z)), some (.int (nI (s + 1))), some (.int (nI y)), some (.int (nI j))]) (q := 205) rfl rfl rfl (nI_1 _) rfl rfl ?_
      refine ar_goto (t := 79) rfl rfl ?_
      exact am_Run.weak (ls' := _) (by exact ⟨rfl, ⟨rfl, ⟨rfl, ⟨rfl, ⟨rfl, ⟨rfl, trivial⟩⟩⟩⟩⟩⟩) h
    · have h := hB c_7
      clear hA hB
      refine ar_iload (q := 163) rfl rfl rfl ?_
      refine ar_iload (q := 165) rfl rfl rfl ?_
      obtain ⟨hA, hB⟩ := h
      refine ar_br am_c_ne (t := 182) (q := 168) rfl rfl rfl (fun c_8 => ?_) (fun c_8 => ?_)
      · have h := hB c_8
        clear hA hB
        refine ar_aload_n (j := 0) (q := 183) rfl rfl rfl rfl ?_
        refine ar_iload_n (j := 1) (q := 184) rfl rfl rfl rfl ?_
        refine ar_iload (q := 186) rfl rfl rfl ?_
        refine ar_invv (as := [.int k, .int (nI s)]) (rest := []) (b2 := (0, 0)) (b3 := (0, 0)) (q := 189) rfl rfl rfl rfl mk_113 rfl rfl rfl rfl rfl ?_
        refine am_meth_mono d _ _ _ _ _ (fun v9 m9 h9 => ?_) h
        obtain ⟨z_20, I_21, L_22, rfl, rfl, h⟩ := h9
        show am_Run am_X0 (am_meth d) 207 R 189 [some (.ref 113), some (.int k), some (.int w), some (.int (nI b)), some (.int (nI z)), some (.int (nI s)), some (.int (nI y)), some (.int (nI j))] [.int z_20] (am_mk I_21 L_22, 0, 0)
        obtain ⟨hA, hB⟩ := h
        refine ar_b0 am_c_ne (t := 195) (q := 192) rfl rfl rfl (fun c_23 => ?_) (fun c_23 => ?_)
        · have h := hB c_23
          clear hA hB
          refine ar_iload (q := 197) rfl rfl rfl ?_
          refine ar_istore_n (j := 3) (ls' := [some (.ref 113), some (.int k), some (.int w), some (.int (nI s)), some (.int (nI z)), some (.int (nI s)), some (.int (nI y)), some (.int (nI j))]) (q := 198) rfl rfl rfl rfl rfl ?_
          refine ar_iload (q := 200) rfl rfl rfl ?_
          refine ar_istore (ls' := [some (.ref 113), some (.int k), some (.int w), some (.int (nI s)), some (.int (nI y)), some (.int (nI s)), some (.int (nI y)), some (.int (nI j))]) (q := 202) rfl rfl rfl rfl ?_
          refine ar_iinc (v := nI (s + 1)) (ls' := [some (.ref 113), some (.int k), some (.int w), some (.int (nI s)), some (.int (nI y)), some (.int (nI (s + 1))), some (.int (nI y)), some (.int (nI j))]) (q := 205) rfl rfl rfl (nI_1 _) rfl rfl ?_
          refine ar_goto (t := 79) rfl rfl ?_
          exact am_Run.weak (ls' := _) (by exact ⟨rfl, ⟨rfl, ⟨rfl, ⟨rfl, ⟨rfl, ⟨rfl, trivial⟩⟩⟩⟩⟩⟩) h
        · have c_23 := Classical.not_not.mp c_23
          have h := hA c_23
          clear hA hB
          refine ar_goto (t := 202) rfl rfl ?_
          refine ar_iinc (v := nI (s + 1)) (ls' := [some (.ref 113), some (.int k), some (.int w), some (.int (nI b)), some (.int (nI z)), some (.int (nI (s + 1))), some (.int (nI y)), some (.int (nI j))]) (q := 205) rfl rfl rfl (nI_1 _) rfl rfl ?_
          refine ar_goto (t := 79) rfl rfl ?_
          exact am_Run.weak (ls' := _) (by exact ⟨rfl, ⟨rfl, ⟨rfl, ⟨rfl, ⟨rfl, ⟨rfl, trivial⟩⟩⟩⟩⟩⟩) h
      · have c_8 := Classical.not_not.mp c_8
        have h := hA c_8
        clear hA hB
        refine ar_aload_n (j := 0) (q := 169) rfl rfl rfl rfl ?_
        refine ar_iload (q := 171) rfl rfl rfl ?_
        refine ar_invv (as := [.int (nI s)]) (rest := []) (b2 := (0, 0)) (b3 := (0, 0)) (q := 174) rfl rfl rfl rfl mk_113 rfl rfl rfl rfl rfl ?_
        refine am_meth_mono d _ _ _ _ _ (fun v9 m9 h9 => ?_) h
        obtain ⟨z_9, I_10, L_11, rfl, rfl, h⟩ := h9
        show am_Run am_X0 (am_meth d) 207 R 174 [some (.ref 113), some (.int k), some (.int w), some (.int (nI b)), some (.int (nI z)), some (.int (nI s)), some (.int (nI y)), some (.int (nI j))] [.int z_9] (am_mk I_10 L_11, 0, 0)
        refine ar_aload_n (j := 0) (q := 175) rfl rfl rfl rfl ?_
        refine ar_iload_n (j := 3) (q := 176) rfl rfl rfl rfl ?_
        refine ar_invv (as := [.int (nI b)]) (rest := [.int z_9]) (b2 := (0, 0)) (b3 := (0, 0)) (q := 179) rfl rfl rfl rfl mk_113 rfl rfl rfl rfl rfl ?_
        refine am_meth_mono d _ _ _ _ _ (fun v9 m9 h9 => ?_) h
        obtain ⟨z_12, I_13, L_14, rfl, rfl, h⟩ := h9
        show am_Run am_X0 (am_meth d) 207 R 179 [some (.ref 113), some (.int k), some (.int w), some (.int (nI b)), some (.int (nI z)), some (.int (nI s)), some (.int (nI y)), some (.int (nI j))] [.int z_12, .int z_9] (am_mk I_13 L_14, 0, 0)
        obtain ⟨hA, hB⟩ := h
        refine ar_br am_d_ge (t := 202) (q := 182) rfl rfl rfl (fun c_15 => ?_) (fun c_15 => ?_)
        · have h := hB c_15
          clear hA hB
          refine ar_iinc (v := nI (s + 1)) (ls' := [some (.ref 113), some (.int k), some (.int w), some (.int (nI b)), some (.int (nI z)), some (.int (nI (s + 1))), some (.int (nI y)), some (.int (nI j))]) (q := 205) rfl rfl rfl (nI_1 _) rfl rfl ?_
          refine ar_goto (t := 79) rfl rfl ?_
          exact am_Run.weak (ls' := _) (by exact ⟨rfl, ⟨rfl, ⟨rfl, ⟨rfl, ⟨rfl, ⟨rfl, trivial⟩⟩⟩⟩⟩⟩) h
        · have c_15 := Classical.not_not.mp c_15
          have h := hA c_15
          clear hA hB
          refine ar_aload_n (j := 0) (q := 183) rfl rfl rfl rfl ?_
          refine ar_iload_n (j := 1) (q := 184) rfl rfl rfl rfl ?_
          refine ar_iload (q := 186) rfl rfl rfl ?_
          refine ar_invv (as := [.int k, .int (nI s)]) (rest := []) (b2 := (0, 0)) (b3 := (0, 0)) (q := 189) rfl rfl rfl rfl mk_113 rfl rfl rfl rfl rfl ?_
          refine am_meth_mono d _ _ _ _ _ (fun v9 m9 h9 => ?_) h
          obtain ⟨z_16, I_17, L_18, rfl, rfl, h⟩ := h9
          show am_Run am_X0 (am_meth d) 207 R 189 [some (.ref 113), some (.int k), some (.int w), some (.int (nI b)), some (.int (nI z)), some (.int (nI s)), some (.int (nI y)), some (.int (nI j))] [.int z_16] (am_mk I_17 L_18, 0, 0)
          obtain ⟨hA, hB⟩ := h
          refine ar_b0 am_c_ne (t := 195) (q := 192) rfl rfl rfl (fun c_19 => ?_) (fun c_19 => ?_)
          · have h := hB c_19
            clear hA hB
            refine ar_iload (q := 197) rfl rfl rfl ?_
            refine ar_istore_n (j := 3) (ls' := [some (.ref 113), some (.int k), some (.int w), some (.int (nI s)), some (.int (nI z)), some (.int (nI s)), some (.int (nI y)), some (.int (nI j))]) (q := 198) rfl rfl rfl rfl rfl ?_
            refine ar_iload (q := 200) rfl rfl rfl ?_
            refine ar_istore (ls' := [some (.ref 113), some (.int k), some (.int w), some (.int (nI s)), some (.int (nI y)), some (.int (nI s)), some (.int (nI y)), some (.int (nI j))]) (q := 202) rfl rfl rfl rfl ?_
            refine ar_iinc (v := nI (s + 1)) (ls' := [some (.ref 113), some (.int k), some (.int w), some (.int (nI s)), some (.int (nI y)), some (.int (nI (s + 1))), some (.int (nI y)), some (.int (nI j))]) (q := 205) rfl rfl rfl (nI_1 _) rfl rfl ?_
            refine ar_goto (t := 79) rfl rfl ?_
            exact am_Run.weak (ls' := _) (by exact ⟨rfl, ⟨rfl, ⟨rfl, ⟨rfl, ⟨rfl, ⟨rfl, trivial⟩⟩⟩⟩⟩⟩) h
          · have c_19 := Classical.not_not.mp c_19
            have h := hA c_19
            clear hA hB
            refine ar_goto (t := 202) rfl rfl ?_
            refine ar_iinc (v := nI (s + 1)) (ls' := [some (.ref 113), some (.int k), some (.int w), some (.int (nI b)), some (.int (nI z)), some (.int (nI (s + 1))), some (.int (nI y)), some (.int (nI j))]) (q := 205) rfl rfl rfl (nI_1 _) rfl rfl ?_
            refine ar_goto (t := 79) rfl rfl ?_
            exact am_Run.weak (ls' := _) (by exact ⟨rfl, ⟨rfl, ⟨rfl, ⟨rfl, ⟨rfl, ⟨rfl, trivial⟩⟩⟩⟩⟩⟩) h
  · have c_1 := Classical.not_not.mp c_1
    have h := hA c_1
    clear hA hB
    refine ar_iload (q := 107) rfl rfl rfl ?_
    refine ar_iload (q := 109) rfl rfl rfl ?_
    refine ar_ib (i := .ishr) (z := (nI s) >>> ((nI j) &&& 31)) (q := 110) rfl rfl rfl rfl rfl ?_
    refine ar_iconst (v := 1) (q := 111) rfl rfl rfl ?_
    refine ar_ib (i := .iand) (z := ((nI s) >>> ((nI j) &&& 31)) &&& 1) (q := 112) rfl rfl rfl rfl rfl ?_
    refine ar_iconst (v := 1) (q := 113) rfl rfl rfl ?_
    obtain ⟨hA, hB⟩ := h
    refine ar_br am_c_ne (t := 148) (q := 116) rfl rfl rfl (fun c_2 => ?_) (fun c_2 => ?_)
    · have h := hB c_2
      clear hA hB
      refine ar_iinc (v := nI (j + 1)) (ls' := [some (.ref 113), some (.int k), some (.int w), some (.int (nI b)), some (.int (nI z)), some (.int (nI s)), some (.int (nI y)), some (.int (nI (j + 1)))]) (q := 151) rfl rfl rfl (nI_1 _) rfl rfl ?_
      refine ar_goto (t := 96) rfl rfl ?_
      exact am_Run.weak (ls' := _) (by exact ⟨rfl, ⟨rfl, ⟨rfl, ⟨rfl, ⟨rfl, ⟨rfl, ⟨rfl, ⟨rfl, trivial⟩⟩⟩⟩⟩⟩⟩⟩) h
    · have c_2 := Classical.not_not.mp c_2
      have h := hA c_2
      clear hA hB
      refine ar_iload (q := 118) rfl rfl rfl ?_
      refine ar_aload_n (j := 0) (q := 119) rfl rfl rfl rfl ?_
      refine ar_getf (v := .ref 127) (q := 122) rfl rfl mk_113 rfl rfl ?_
      refine ar_aload_n (j := 0) (q := 123) rfl rfl rfl rfl ?_
      refine ar_getf (v := .ref 146) (q := 126) rfl rfl mk_113 rfl rfl ?_
      refine ar_iload (q := 128) rfl rfl rfl ?_
      obtain ⟨hx_3, h⟩ := h
      refine ar_iald (v := I 146 j) (q := 129) rfl mk_146 (am_inE rfl hx_3 (by decide)) (am_clE (n := 12) rfl hx_3 (by decide)) rfl ?_
      obtain ⟨j_4, hx_5, hi_6, h⟩ := h
      refine ar_iald (v := I 127 j_4) (q := 130) rfl mk_127 (am_inE hi_6 hx_5 (by decide)) (am_clE (n := 60) hi_6 hx_5 (by decide)) rfl ?_
      refine ar_aload_n (j := 0) (q := 131) rfl rfl rfl rfl ?_
      refine ar_getf (v := .ref 126) (q := 134) rfl rfl mk_113 rfl rfl ?_
      refine ar_aload_n (j := 0) (q := 135) rfl rfl rfl rfl ?_
      refine ar_getf (v := .ref 146) (q := 138) rfl rfl mk_113 rfl rfl ?_
      refine ar_iload (q := 140) rfl rfl rfl ?_
      refine ar_iald (v := I 146 j) (q := 141) rfl mk_146 (am_inE rfl hx_3 (by decide)) (am_clE (n := 12) rfl hx_3 (by decide)) rfl ?_
      refine ar_iald (v := I 126 j_4) (q := 142) rfl mk_126 (am_inE hi_6 hx_5 (by decide)) (am_clE (n := 60) hi_6 hx_5 (by decide)) rfl ?_
      refine ar_ib (i := .isub) (z := (I 127 j_4) - (I 126 j_4)) (q := 143) rfl rfl rfl rfl rfl ?_
      refine ar_iconst (v := 1) (q := 144) rfl rfl rfl ?_
      refine ar_ib (i := .iadd) (z := ((I 127 j_4) - (I 126 j_4)) + 1) (q := 145) rfl rfl rfl rfl rfl ?_
      refine ar_ib (i := .iadd) (z := (nI y) + (((I 127 j_4) - (I 126 j_4)) + 1)) (q := 146) rfl rfl rfl rfl rfl ?_
      refine ar_istore (ls' := [some (.ref 113), some (.int k), some (.int w), some (.int (nI b)), some (.int (nI z)), some (.int (nI s)), some (.int ((nI y) + (((I 127 j_4) - (I 126 j_4)) + 1))), some (.int (nI j))]) (q := 148) rfl rfl rfl rfl ?_
      refine ar_iinc (v := nI (j + 1)) (ls' := [some (.ref 113), some (.int k), some (.int w), some (.int (nI b)), some (.int (nI z)), some (.int (nI s)), some (.int ((nI y) + (((I 127 j_4) - (I 126 j_4)) + 1))), some (.int (nI (j + 1)))]) (q := 151) rfl rfl rfl (nI_1 _) rfl rfl ?_
      refine ar_goto (t := 96) rfl rfl ?_
      exact am_Run.weak (ls' := _) (by exact ⟨rfl, ⟨rfl, ⟨rfl, ⟨rfl, ⟨rfl, ⟨rfl, ⟨rfl, ⟨rfl, trivial⟩⟩⟩⟩⟩⟩⟩⟩) h
