theorem r_Keepers_isAlikeToOneOf_0 {d : Nat} {R : am_R} {I : Nat → Nat → Int32} {L : Nat → Nat → Int64} {g : Int32} {k : Nat} (h : am_Run am_X0 (am_meth d) 58 R 2 [some (.ref 16), some (.int g), some (.int (nI k)), some (.int 0)] [] (am_mk I L, 0, 0)) : am_Run am_X0 (am_meth d) 58 R 0 [some (.ref 16), some (.int g), some (.int (nI k)), none] [] (am_mk I L, 0, 0) := by
  refine ar_iconst (v := 0) (q := 1) rfl rfl rfl ?_
  refine ar_istore_n (j := 3) (ls' := [some (.ref 16), some (.int g), some (.int (nI k)), some (.int 0)]) (q := 2) rfl rfl rfl rfl rfl ?_
  exact am_Run.weak (ls' := _) (by exact ⟨rfl, ⟨rfl, ⟨rfl, ⟨rfl, trivial⟩⟩⟩⟩) h
theorem r_Keepers_isAlikeToOneOf_2 {d : Nat} (hd : 1 ≤ d) {R : am_R} {I : Nat → Nat → Int32} {L : Nat → Nat → Int64} {g : Int32} {k : Nat} {j : Nat} (h : (((nI j) < (I 16 0) → (((((g >>> ((nI j) &&& 31)) &&& 1) = 1 → ((j < 20) ∧ ((k < 20) ∧ (((s_alf (I 20) j k = true → (R (some (.int 1)) (am_mk I L, 0, 0))) ∧ (¬ (s_alf (I 20) j k = true) → (am_Run am_X0 (am_meth d) 58 R 2 [some (.ref 16), some (.int g), some (.int (nI k)), some (.int (nI (j + 1)))] [] (am_mk I L, 0, 0)))))))) ∧ (¬ ((g >>> ((nI j) &&& 31)) &&& 1) = 1 → (am_Run am_X0 (am_meth d) 58 R 2 [some (.ref 16), some (.int g), some (.int (nI k)), some (.int (nI (j + 1)))] [] (am_mk I L, 0, 0)))))) ∧ (¬ (nI j) < (I 16 0) → (R (some (.int 0)) (am_mk I L, 0, 0))))) : am_Run am_X0 (am_meth d) 58 R 2 [some (.ref 16), some (.int g), some (.int (nI k)), some (.int (nI j))] [] (am_mk I L, 0, 0) := by
  refine ar_iload_n (j := 3) (q := 3) rfl rfl rfl rfl ?_
  refine ar_aload_n (j := 0) (q := 4) rfl rfl rfl rfl ?_
  refine ar_getf (v := .int (I 16 0)) (q := 7) rfl rfl mk_16 rfl rfl ?_
  obtain ⟨hA, hB⟩ := h
  refine ar_br am_d_ge (t := 36) (q := 10) rfl rfl rfl (fun c_1 => ?_) (fun c_1 => ?_)
  · have h := hB c_1
    clear hA hB
    refine ar_iconst (v := 0) (q := 37) rfl rfl rfl ?_
    exact ar_zret rfl rfl (Or.inl rfl) h
  · have c_1 := Classical.not_not.mp c_1
    have h := hA c_1
    clear hA hB
    refine ar_iload_n (j := 1) (q := 11) rfl rfl rfl rfl ?_
    refine ar_iload_n (j := 3) (q := 12) rfl rfl rfl rfl ?_
    refine ar_ib (i := .ishr) (z := g >>> ((nI j) &&& 31)) (q := 13) rfl rfl rfl rfl rfl ?_
    refine ar_iconst (v := 1) (q := 14) rfl rfl rfl ?_
    refine ar_ib (i := .iand) (z := (g >>> ((nI j) &&& 31)) &&& 1) (q := 15) rfl rfl rfl rfl rfl ?_
    refine ar_iconst (v := 1) (q := 16) rfl rfl rfl ?_
    obtain ⟨hA, hB⟩ := h
    refine ar_br am_c_ne (t := 30) (q := 19) rfl rfl rfl (fun c_2 => ?_) (fun c_2 => ?_)
    · have h := hB c_2
      clear hA hB
      refine ar_iinc (v := nI (j + 1)) (ls' := [some (.ref 16), some (.int g), some (.int (nI k)), some (.int (nI (j + 1)))]) (q := 33) rfl rfl rfl (nI_1 _) rfl rfl ?_
      refine ar_goto (t := 2) rfl rfl ?_
      exact am_Run.weak (ls' := _) (by exact ⟨rfl, ⟨rfl, ⟨rfl, ⟨rfl, trivial⟩⟩⟩⟩) h
    · have c_2 := Classical.not_not.mp c_2
      have h := hA c_2
      clear hA hB
      refine ar_aload_n (j := 0) (q := 20) rfl rfl rfl rfl ?_
      refine ar_iload_n (j := 3) (q := 21) rfl rfl rfl rfl ?_
      refine ar_iload_n (j := 2) (q := 22) rfl rfl rfl rfl ?_
      refine ar_invv (as := [.int (nI j), .int (nI k)]) (rest := []) (b2 := (0, 0)) (b3 := (0, 0)) (q := 25) rfl rfl rfl rfl mk_16 rfl rfl rfl rfl rfl ?_
      obtain ⟨hp_4, h⟩ := h
      obtain ⟨hp_5, h⟩ := h
      obtain ⟨hA, hB⟩ := h
      refine ok_Ke_areAlf (by omega) rfl rfl hp_4 hp_5 (fun c_3 => ?_) (fun c_3 => ?_)
      · have h := hA c_3
        clear hA hB
        show am_Run am_X0 (am_meth d) 58 R 25 [some (.ref 16), some (.int g), some (.int (nI k)), some (.int (nI j))] [.int 1] (am_mk I L, 0, 0)
        refine ar_b0 am_c_eq (t := 30) (q := 28) rfl rfl rfl (fun c9 => absurd c9 (by decide)) (fun _ => ?_)
        refine ar_iconst (v := 1) (q := 29) rfl rfl rfl ?_
        exact ar_zret rfl rfl (Or.inr rfl) h
      · have h := hB c_3
        clear hA hB
        show am_Run am_X0 (am_meth d) 58 R 25 [some (.ref 16), some (.int g), some (.int (nI k)), some (.int (nI j))] [.int 0] (am_mk I L, 0, 0)
        refine ar_b0 am_c_eq (t := 30) (q := 28) rfl rfl rfl (fun _ => ?_) (fun c9 => absurd (by decide) c9)
        refine ar_iinc (v := nI (j + 1)) (ls' := [some (.ref 16), some (.int g), some (.int (nI k)), some (.int (nI (j + 1)))]) (q := 33) rfl rfl rfl (nI_1 _) rfl rfl ?_
        refine ar_goto (t := 2) rfl rfl ?_
        exact am_Run.weak (ls' := _) (by exact ⟨rfl, ⟨rfl, ⟨rfl, ⟨rfl, trivial⟩⟩⟩⟩) h
theorem r_Keepers_withThoseAlike_0 {d : Nat} {R : am_R} {I : Nat → Nat → Int32} {L : Nat → Nat → Int64} {g : Int32} (h : am_Run am_X0 (am_meth d) 57 R 4 [some (.ref 16), some (.int g), some (.int g), some (.int 0)] [] (am_mk I L, 0, 0)) : am_Run am_X0 (am_meth d) 57 R 0 [some (.ref 16), some (.int g), none, none] [] (am_mk I L, 0, 0) := by
  refine ar_iload_n (j := 1) (q := 1) rfl rfl rfl rfl ?_
  refine ar_istore_n (j := 2) (ls' := [some (.ref 16), some (.int g), some (.int g), none]) (q := 2) rfl rfl rfl rfl rfl ?_
  refine ar_iconst (v := 0) (q := 3) rfl rfl rfl ?_
  refine ar_istore_n (j := 3) (ls' := [some (.ref 16), some (.int g), some (.int g), some (.int 0)]) (q := 4) rfl rfl rfl rfl rfl ?_
  exact am_Run.weak (ls' := _) (by exact ⟨rfl, ⟨rfl, ⟨rfl, ⟨rfl, trivial⟩⟩⟩⟩) h
theorem r_Keepers_withThoseAlike_4 {d : Nat} {R : am_R} {I : Nat → Nat → Int32} {L : Nat → Nat → Int64} {g : Int32} {w : Int32} {j : Nat} (h : (((nI j) < (I 16 0) → (((((w >>> ((nI j) &&& 31)) &&& 1) = 0 → (am_meth d 58 [.ref 16, .int g, .int (nI j)] (am_mk I L, 0, 0) (am_ri (fun z_3 I_4 L_5 => ((z_3 = 0 → (am_Run am_X0 (am_meth d) 57 R 4 [some (.ref 16), some (.int g), some (.int w), some (.int (nI (j + 1)))] [] (am_mk I_4 L_5, 0, 0))) ∧ (¬ z_3 = 0 → (am_Run am_X0 (am_meth d) 57 R 4 [some (.ref 16), some (.int g), some (.int (w ||| (1 <<< ((nI j) &&& 31)))), some (.int (nI (j + 1)))] [] (am_mk I_4 L_5, 0, 0)))))))) ∧ (¬ ((w >>> ((nI j) &&& 31)) &&& 1) = 0 → (am_Run am_X0 (am_meth d) 57 R 4 [some (.ref 16), some (.int g), some (.int w), some (.int (nI (j + 1)))] [] (am_mk I L, 0, 0)))))) ∧ (¬ (nI j) < (I 16 0) → (R (some (.int w)) (am_mk I L, 0, 0))))) : am_Run am_X0 (am_meth d) 57 R 4 [some (.ref 16), some (.int g), some (.int w), some (.int (nI j))] [] (am_mk I L, 0, 0) := by
  refine ar_iload_n (j := 3) (q := 5) rfl rfl rfl rfl ?_
  refine ar_aload_n (j := 0) (q := 6) rfl rfl rfl rfl ?_
  refine ar_getf (v := .int (I 16 0)) (q := 9) rfl rfl mk_16 rfl rfl ?_
  obtain ⟨hA, hB⟩ := h
  refine ar_br am_d_ge (t := 41) (q := 12) rfl rfl rfl (fun c_1 => ?_) (fun c_1 => ?_)
  · have h := hB c_1
    clear hA hB
    refine ar_iload_n (j := 2) (q := 42) rfl rfl rfl rfl ?_
    exact ar_iret rfl rfl h
  · have c_1 := Classical.not_not.mp c_1
    have h := hA c_1
    clear hA hB
    refine ar_iload_n (j := 2) (q := 13) rfl rfl rfl rfl ?_
    refine ar_iload_n (j := 3) (q := 14) rfl rfl rfl rfl ?_
    refine ar_ib (i := .ishr) (z := w >>> ((nI j) &&& 31)) (q := 15) rfl rfl rfl rfl rfl ?_
    refine ar_iconst (v := 1) (q := 16) rfl rfl rfl ?_
    refine ar_ib (i := .iand) (z := (w >>> ((nI j) &&& 31)) &&& 1) (q := 17) rfl rfl rfl rfl rfl ?_
    obtain ⟨hA, hB⟩ := h
    refine ar_b0 am_c_ne (t := 35) (q := 20) rfl rfl rfl (fun c_2 => ?_) (fun c_2 => ?_)
    · have h := hB c_2
      clear hA hB
      refine ar_iinc (v := nI (j + 1)) (ls' := [some (.ref 16), some (.int g), some (.int w), some (.int (nI (j + 1)))]) (q := 38) rfl rfl rfl (nI_1 _) rfl rfl ?_
      refine ar_goto (t := 4) rfl rfl ?_
      exact am_Run.weak (ls' := _) (by exact ⟨rfl, ⟨rfl, ⟨rfl, ⟨rfl, trivial⟩⟩⟩⟩) h
    · have c_2 := Classical.not_not.mp c_2
      have h := hA c_2
      clear hA hB
      refine ar_aload_n (j := 0) (q := 21) rfl rfl rfl rfl ?_
      refine ar_iload_n (j := 1) (q := 22) rfl rfl rfl rfl ?_
      refine ar_iload_n (j := 3) (q := 23) rfl rfl rfl rfl ?_
      refine ar_invv (as := [.int g, .int (nI j)]) (rest := []) (b2 := (0, 0)) (b3 := (0, 0)) (q := 26) rfl rfl rfl rfl mk_16 rfl rfl rfl rfl rfl ?_
      refine am_meth_mono d _ _ _ _ _ (fun v9 m9 h9 => ?_) h
      obtain ⟨z_3, I_4, L_5, rfl, rfl, h⟩ := h9
      show am_Run am_X0 (am_meth d) 57 R 26 [some (.ref 16), some (.int g), some (.int w), some (.int (nI j))] [.int z_3] (am_mk I_4 L_5, 0, 0)
      obtain ⟨hA, hB⟩ := h
      refine ar_b0 am_c_eq (t := 35) (q := 29) rfl rfl rfl (fun c_6 => ?_) (fun c_6 => ?_)
      · have h := hA c_6
        clear hA hB
        refine ar_iinc (v := nI (j + 1)) (ls' := [some (.ref 16), some (.int g), some (.int w), some (.int (nI (j + 1)))]) (q := 38) rfl rfl rfl (nI_1 _) rfl rfl ?_
        refine ar_goto (t := 4) rfl rfl ?_
        exact am_Run.weak (ls' := _) (by exact ⟨rfl, ⟨rfl, ⟨rfl, ⟨rfl, trivial⟩⟩⟩⟩) h
      · have h := hB c_6
        clear hA hB
        refine ar_iload_n (j := 2) (q := 30) rfl rfl rfl rfl ?_
        refine ar_iconst (v := 1) (q := 31) rfl rfl rfl ?_
        refine ar_iload_n (j := 3) (q := 32) rfl rfl rfl rfl ?_
        refine ar_ib (i := .ishl) (z := 1 <<< ((nI j) &&& 31)) (q := 33) rfl rfl rfl rfl rfl ?_
        refine ar_ib (i := .ior) (z := w ||| (1 <<< ((nI j) &&& 31))) (q := 34) rfl rfl rfl rfl rfl ?_
        refine ar_istore_n (j := 2) (ls' := [some (.ref 16), some (.int g), some (.int (w ||| (1 <<< ((nI j) &&& 31)))), some (.int (nI j))]) (q := 35) rfl rfl rfl rfl rfl ?_
        refine ar_iinc (v := nI (j + 1)) (ls' := [some (.ref 16), some (.int g), some (.int (w ||| (1 <<< ((nI j) &&& 31)))), some (.int (nI (j + 1)))]) (q := 38) rfl rfl rfl (nI_1 _) rfl rfl ?_
        refine ar_goto (t := 4) rfl rfl ?_
        exact am_Run.weak (ls' := _) (by exact ⟨rfl, ⟨rfl, ⟨rfl, ⟨rfl, trivial⟩⟩⟩⟩) h
theorem r_Keepers_leastOfGroup_0 {d : Nat} {R : am_R} {I : Nat → Nat → Int32} {L : Nat → Nat → Int64} {k : Nat} (h : am_Run am_X0 (am_meth d) 56 R 6 [some (.ref 16), some (.int (nI k)), some (.int (1 <<< ((nI k) &&& 31))), some (.int 0), none] [] (am_mk I L, 0, 0)) : am_Run am_X0 (am_meth d) 56 R 0 [some (.ref 16), some (.int (nI k)), none, none, none] [] (am_mk I L, 0, 0) := by
  refine ar_iconst (v := 1) (q := 1) rfl rfl rfl ?_
  refine ar_iload_n (j := 1) (q := 2) rfl rfl rfl rfl ?_
  refine ar_ib (i := .ishl) (z := 1 <<< ((nI k) &&& 31)) (q := 3) rfl rfl rfl rfl rfl ?_
  refine ar_istore_n (j := 2) (ls' := [some (.ref 16), some (.int (nI k)), some (.int (1 <<< ((nI k) &&& 31))), none, none]) (q := 4) rfl rfl rfl rfl rfl ?_
  refine ar_iconst (v := 0) (q := 5) rfl rfl rfl ?_
  refine ar_istore_n (j := 3) (ls' := [some (.ref 16), some (.int (nI k)), some (.int (1 <<< ((nI k) &&& 31))), some (.int 0), none]) (q := 6) rfl rfl rfl rfl rfl ?_
  exact am_Run.weak (ls' := _) (by exact ⟨rfl, ⟨rfl, ⟨rfl, ⟨rfl, trivial⟩⟩⟩⟩) h
theorem r_Keepers_leastOfGroup_6 {d : Nat} {R : am_R} {I : Nat → Nat → Int32} {L : Nat → Nat → Int64} {k : Nat} {g : Int32} {j : Nat} (h : (((nI j) < 20 → (am_meth d 57 [.ref 16, .int g] (am_mk I L, 0, 0) (am_ri (fun z_2 I_3 L_4 => ((z_2 = g → (am_Run am_X0 (am_meth d) 56 R 39 [some (.ref 16), some (.int (nI k)), some (.int g), some (.int 0), none] [] (am_mk I_3 L_4, 0, 0))) ∧ (¬ z_2 = g → (am_Run am_X0 (am_meth d) 56 R 6 [some (.ref 16), some (.int (nI k)), some (.int z_2), some (.int (nI (j + 1))), none] [] (am_mk I_3 L_4, 0, 0)))))))) ∧ (¬ (nI j) < 20 → (am_Run am_X0 (am_meth d) 56 R 39 [some (.ref 16), some (.int (nI k)), some (.int g), some (.int 0), none] [] (am_mk I L, 0, 0))))) : am_Run am_X0 (am_meth d) 56 R 6 [some (.ref 16), some (.int (nI k)), some (.int g), some (.int (nI j)), none] [] (am_mk I L, 0, 0) := by
  refine ar_iload_n (j := 3) (q := 7) rfl rfl rfl rfl ?_
  refine ar_bipush (v := 20) (q := 9) rfl rfl rfl ?_
  obtain ⟨hA, hB⟩ := h
  refine ar_br am_d_ge (t := 37) (q := 12) rfl rfl rfl (fun c_1 => ?_) (fun c_1 => ?_)
  · have h := hB c_1
    clear hA hB
    refine ar_iconst (v := 0) (q := 38) rfl rfl rfl ?_
    refine ar_istore_n (j := 3) (ls' := [some (.ref 16), some (.int (nI k)), some (.int g), some (.int 0), none]) (q := 39) rfl rfl rfl rfl rfl ?_
    exact am_Run.weak (ls' := _) (by exact ⟨rfl, ⟨rfl, ⟨rfl, ⟨rfl, trivial⟩⟩⟩⟩) h
  · have c_1 := Classical.not_not.mp c_1
    have h := hA c_1
    clear hA hB
    refine ar_aload_n (j := 0) (q := 13) rfl rfl rfl rfl ?_
    refine ar_iload_n (j := 2) (q := 14) rfl rfl rfl rfl ?_
    refine ar_invv (as := [.int g]) (rest := []) (b2 := (0, 0)) (b3 := (0, 0)) (q := 17) rfl rfl rfl rfl mk_16 rfl rfl rfl rfl rfl ?_
    refine am_meth_mono d _ _ _ _ _ (fun v9 m9 h9 => ?_) h
    obtain ⟨z_2, I_3, L_4, rfl, rfl, h⟩ := h9
    show am_Run am_X0 (am_meth d) 56 R 17 [some (.ref 16), some (.int (nI k)), some (.int g), some (.int (nI j)), none] [.int z_2] (am_mk I_3 L_4, 0, 0)
    refine ar_istore (ls' := [some (.ref 16), some (.int (nI k)), some (.int g), some (.int (nI j)), some (.int z_2)]) (q := 19) rfl rfl rfl rfl ?_
    refine ar_iload (q := 21) rfl rfl rfl ?_
    refine ar_iload_n (j := 2) (q := 22) rfl rfl rfl rfl ?_
    obtain ⟨hA, hB⟩ := h
    refine ar_br am_c_ne (t := 28) (q := 25) rfl rfl rfl (fun c_5 => ?_) (fun c_5 => ?_)
    · have h := hB c_5
      clear hA hB
      refine ar_iload (q := 30) rfl rfl rfl ?_
      refine ar_istore_n (j := 2) (ls' := [some (.ref 16), some (.int (nI k)), some (.int z_2), some (.int (nI j)), some (.int z_2)]) (q := 31) rfl rfl rfl rfl rfl ?_
      refine ar_iinc (v := nI (j + 1)) (ls' := [some (.ref 16), some (.int (nI k)), some (.int z_2), some (.int (nI (j + 1))), some (.int z_2)]) (q := 34) rfl rfl rfl (nI_1 _) rfl rfl ?_
      refine ar_goto (t := 6) rfl rfl ?_
      exact am_Run.weak (ls' := _) (by exact ⟨rfl, ⟨rfl, ⟨rfl, ⟨rfl, trivial⟩⟩⟩⟩) h
    · have c_5 := Classical.not_not.mp c_5
      have h := hA c_5
      clear hA hB
      refine ar_goto (t := 37) rfl rfl ?_
      refine ar_iconst (v := 0) (q := 38) rfl rfl rfl ?_
      refine ar_istore_n (j := 3) (ls' := [some (.ref 16), some (.int (nI k)), some (.int g), some (.int 0), some (.int z_2)]) (q := 39) rfl rfl rfl rfl rfl ?_
      exact am_Run.weak (ls' := _) (by exact ⟨rfl, ⟨rfl, ⟨rfl, ⟨rfl, trivial⟩⟩⟩⟩) h
theorem r_Keepers_leastOfGroup_39 {d : Nat} {R : am_R} {I : Nat → Nat → Int32} {L : Nat → Nat → Int64} {k : Nat} {g : Int32} {j : Nat} (h : (((nI j) < (nI k) → (((((g >>> ((nI j) &&& 31)) &&& 1) = 1 → (R (some (.int (nI j))) (am_mk I L, 0, 0))) ∧ (¬ ((g >>> ((nI j) &&& 31)) &&& 1) = 1 → (am_Run am_X0 (am_meth d) 56 R 39 [some (.ref 16), some (.int (nI k)), some (.int g), some (.int (nI (j + 1))), none] [] (am_mk I L, 0, 0)))))) ∧ (¬ (nI j) < (nI k) → (R (some (.int (nI k))) (am_mk I L, 0, 0))))) : am_Run am_X0 (am_meth d) 56 R 39 [some (.ref 16), some (.int (nI k)), some (.int g), some (.int (nI j)), none] [] (am_mk I L, 0, 0) := by
  refine ar_iload_n (j := 3) (q := 40) rfl rfl rfl rfl ?_
  refine ar_iload_n (j := 1) (q := 41) rfl rfl rfl rfl ?_
  obtain ⟨hA, hB⟩ := h
  refine ar_br am_d_ge (t := 61) (q := 44) rfl rfl rfl (fun c_1 => ?_) (fun c_1 => ?_)
  · have h := hB c_1
    clear hA hB
    refine ar_iload_n (j := 1) (q := 62) rfl rfl rfl rfl ?_
    exact ar_iret rfl rfl h
  · have c_1 := Classical.not_not.mp c_1
    have h := hA c_1
    clear hA hB
    refine ar_iload_n (j := 2) (q := 45) rfl rfl rfl rfl ?_
    refine ar_iload_n (j := 3) (q := 46) rfl rfl rfl rfl ?_
    refine ar_ib (i := .ishr) (z := g >>> ((nI j) &&& 31)) (q := 47) rfl rfl rfl rfl rfl ?_
    refine ar_iconst (v := 1) (q := 48) rfl rfl rfl ?_
    refine ar_ib (i := .iand) (z := (g >>> ((nI j) &&& 31)) &&& 1) (q := 49) rfl rfl rfl rfl rfl ?_
    refine ar_iconst (v := 1) (q := 50) rfl rfl rfl ?_
    obtain ⟨hA, hB⟩ := h
    refine ar_br am_c_ne (t := 55) (q := 53) rfl rfl rfl (fun c_2 => ?_) (fun c_2 => ?_)
    · have h := hB c_2
      clear hA hB
      refine ar_iinc (v := nI (j + 1)) (ls' := [some (.ref 16), some (.int (nI k)), some (.int g), some (.int (nI (j + 1))), none]) (q := 58) rfl rfl rfl (nI_1 _) rfl rfl ?_
      refine ar_goto (t := 39) rfl rfl ?_
      exact am_Run.weak (ls' := _) (by exact ⟨rfl, ⟨rfl, ⟨rfl, ⟨rfl, trivial⟩⟩⟩⟩) h
    · have c_2 := Classical.not_not.mp c_2
      have h := hA c_2
      clear hA hB
      refine ar_iload_n (j := 3) (q := 54) rfl rfl rfl rfl ?_
      exact ar_iret rfl rfl h
theorem r_H_group_0 {d : Nat} (hd : 1 ≤ d) {R : am_R} {I : Nat → Nat → Int32} {L : Nat → Nat → Int64} {k : Int32} (h : ((0 ≤ k ∧ k < I 16 0 → (am_meth d 56 [.ref 16, .int k] (am_mk I L, 0, 0) (am_ri (fun z_2 I_3 L_4 => R (some (.int z_2)) (am_mk I_3 L_4, 0, 0))))) ∧ (¬ (0 ≤ k ∧ k < I 16 0) → (R (some (.int (-1 : Int32))) (am_mk (am_rf I 1) L, 0, 0))))) : am_Run am_X0 (am_meth d) 37 R 0 [some (.ref 0), some (.int k)] [] (am_mk I L, 0, 0) := by
  refine ar_aload_n (j := 0) (q := 1) rfl rfl rfl rfl ?_
  refine ar_getf (v := .ref 16) (q := 4) rfl rfl mk_0 rfl rfl ?_
  refine ar_iload_n (j := 1) (q := 5) rfl rfl rfl rfl ?_
  refine ar_invv (as := [.int k]) (rest := []) (b2 := (0, 0)) (b3 := (0, 0)) (q := 8) rfl rfl rfl rfl mk_16 rfl rfl rfl rfl rfl ?_
  obtain ⟨hA, hB⟩ := h
  refine ok_Ke_has (by omega)  (fun c_1 => ?_) (fun c_1 => ?_)
  · have h := hA c_1
    clear hA hB
    show am_Run am_X0 (am_meth d) 37 R 8 [some (.ref 0), some (.int k)] [.int 1] (am_mk I L, 0, 0)
    refine ar_b0 am_c_ne (t := 17) (q := 11) rfl rfl rfl (fun _ => ?_) (fun c9 => absurd (by decide) c9)
    refine ar_aload_n (j := 0) (q := 18) rfl rfl rfl rfl ?_
    refine ar_getf (v := .ref 16) (q := 21) rfl rfl mk_0 rfl rfl ?_
    refine ar_iload_n (j := 1) (q := 22) rfl rfl rfl rfl ?_
    refine ar_invv (as := [.int k]) (rest := []) (b2 := (0, 0)) (b3 := (0, 0)) (q := 25) rfl rfl rfl rfl mk_16 rfl rfl rfl rfl rfl ?_
    refine am_meth_mono d _ _ _ _ _ (fun v9 m9 h9 => ?_) h
    obtain ⟨z_2, I_3, L_4, rfl, rfl, h⟩ := h9
    show am_Run am_X0 (am_meth d) 37 R 25 [some (.ref 0), some (.int k)] [.int z_2] (am_mk I_3 L_4, 0, 0)
    exact ar_iret rfl rfl h
  · have h := hB c_1
    clear hA hB
    show am_Run am_X0 (am_meth d) 37 R 8 [some (.ref 0), some (.int k)] [.int 0] (am_mk I L, 0, 0)
    refine ar_b0 am_c_ne (t := 17) (q := 11) rfl rfl rfl (fun c9 => absurd (by decide) c9) (fun _ => ?_)
    refine ar_aload_n (j := 0) (q := 12) rfl rfl rfl rfl ?_
    refine ar_iconst (v := (-1 : Int32)) (q := 13) rfl rfl rfl ?_
    refine ar_invv (as := [.int (-1 : Int32)]) (rest := []) (b2 := (0, 0)) (b3 := (0, 0)) (q := 16) rfl rfl rfl rfl mk_0 rfl rfl rfl rfl rfl ?_
    refine ok_refuse (j := 1) (by omega) (by decide) (by decide) ?_
    show am_Run am_X0 (am_meth d) 37 R 16 [some (.ref 0), some (.int k)] [.int (-1 : Int32)] (am_mk (am_rf I 1) L, 0, 0)
    exact ar_iret rfl rfl h
theorem r_M_group_0 {d : Nat} (hd : 1 ≤ d) {R : am_R} {I : Nat → Nat → Int32} {L : Nat → Nat → Int64} {k : Int32} (h : ((0 ≤ k ∧ k < I 113 4 → (am_Run am_X0 (am_meth d) 233 R 20 [some (.ref 113), none, some (.int (1 <<< (k &&& 31))), some (.int 0), none, none] [] (am_mk I L, 0, 0))) ∧ (¬ (0 ≤ k ∧ k < I 113 4) → (R (some (.int (-1 : Int32))) (am_mk (am_no I 1) L, 0, 0))))) : am_Run am_X0 (am_meth d) 233 R 0 [some (.ref 113), some (.int k), none, none, none, none] [] (am_mk I L, 0, 0) := by
  refine ar_aload_n (j := 0) (q := 1) rfl rfl rfl rfl ?_
  refine ar_iload_n (j := 1) (q := 2) rfl rfl rfl rfl ?_
  refine ar_invv (as := [.int k]) (rest := []) (b2 := (0, 0)) (b3 := (0, 0)) (q := 5) rfl rfl rfl rfl mk_113 rfl rfl rfl rfl rfl ?_
  obtain ⟨hA, hB⟩ := h
  refine ok_M_isKeeper (by omega)  (fun c_1 => ?_) (fun c_1 => ?_)
  · have h := hA c_1
    clear hA hB
    show am_Run am_X0 (am_meth d) 233 R 5 [some (.ref 113), some (.int k), none, none, none, none] [.int 1] (am_mk I L, 0, 0)
    refine ar_b0 am_c_ne (t := 14) (q := 8) rfl rfl rfl (fun _ => ?_) (fun c9 => absurd (by decide) c9)
    refine ar_iconst (v := 1) (q := 15) rfl rfl rfl ?_
    refine ar_iload_n (j := 1) (q := 16) rfl rfl rfl rfl ?_
    refine ar_ib (i := .ishl) (z := 1 <<< (k &&& 31)) (q := 17) rfl rfl rfl rfl rfl ?_
    refine ar_istore_n (j := 2) (ls' := [some (.ref 113), some (.int k), some (.int (1 <<< (k &&& 31))), none, none, none]) (q := 18) rfl rfl rfl rfl rfl ?_
    refine ar_iconst (v := 0) (q := 19) rfl rfl rfl ?_
    refine ar_istore_n (j := 3) (ls' := [some (.ref 113), some (.int k), some (.int (1 <<< (k &&& 31))), some (.int 0), none, none]) (q := 20) rfl rfl rfl rfl rfl ?_
    exact am_Run.weak (ls' := _) (by exact ⟨rfl, ⟨rfl, ⟨rfl, trivial⟩⟩⟩) h
  · have h := hB c_1
    clear hA hB
    show am_Run am_X0 (am_meth d) 233 R 5 [some (.ref 113), some (.int k), none, none, none, none] [.int 0] (am_mk I L, 0, 0)
    refine ar_b0 am_c_ne (t := 14) (q := 8) rfl rfl rfl (fun c9 => absurd (by decide) c9) (fun _ => ?_)
    refine ar_aload_n (j := 0) (q := 9) rfl rfl rfl rfl ?_
    refine ar_iconst (v := (-1 : Int32)) (q := 10) rfl rfl rfl ?_
    refine ar_invv (as := [.int (-1 : Int32)]) (rest := []) (b2 := (0, 0)) (b3 := (0, 0)) (q := 13) rfl rfl rfl rfl mk_113 rfl rfl rfl rfl rfl ?_
    refine ok_no (j := 1) (by omega) (by decide) (by decide) ?_
    show am_Run am_X0 (am_meth d) 233 R 13 [some (.ref 113), some (.int k), none, none, none, none] [.int (-1 : Int32)] (am_mk (am_no I 1) L, 0, 0)
    exact ar_iret rfl rfl h
theorem r_M_group_20 {d : Nat} {R : am_R} {I : Nat → Nat → Int32} {L : Nat → Nat → Int64} {g : Int32} {m : Nat} (h : (((nI m) < (I 113 4) → (am_Run am_X0 (am_meth d) 233 R 31 [some (.ref 113), none, some (.int g), some (.int (nI m)), some (.int 0), none] [] (am_mk I L, 0, 0))) ∧ (¬ (nI m) < (I 113 4) → (am_Run am_X0 (am_meth d) 233 R 102 [some (.ref 113), none, some (.int g), some (.int 0), none, none] [] (am_mk I L, 0, 0))))) : am_Run am_X0 (am_meth d) 233 R 20 [some (.ref 113), none, some (.int g), some (.int (nI m)), none, none] [] (am_mk I L, 0, 0) := by
  refine ar_iload_n (j := 3) (q := 21) rfl rfl rfl rfl ?_
  refine ar_aload_n (j := 0) (q := 22) rfl rfl rfl rfl ?_
  refine ar_getf (v := .int (I 113 4)) (q := 25) rfl rfl mk_113 rfl rfl ?_
  obtain ⟨hA, hB⟩ := h
  refine ar_br am_d_ge (t := 100) (q := 28) rfl rfl rfl (fun c_1 => ?_) (fun c_1 => ?_)
  · have h := hB c_1
    clear hA hB
    refine ar_iconst (v := 0) (q := 101) rfl rfl rfl ?_
    refine ar_istore_n (j := 3) (ls' := [some (.ref 113), none, some (.int g), some (.int 0), none, none]) (q := 102) rfl rfl rfl rfl rfl ?_
    exact am_Run.weak (ls' := _) (by exact ⟨rfl, ⟨rfl, ⟨rfl, trivial⟩⟩⟩) h
  · have c_1 := Classical.not_not.mp c_1
    have h := hA c_1
    clear hA hB
    refine ar_iconst (v := 0) (q := 29) rfl rfl rfl ?_
    refine ar_istore (ls' := [some (.ref 113), none, some (.int g), some (.int (nI m)), some (.int 0), none]) (q := 31) rfl rfl rfl rfl ?_
    exact am_Run.weak (ls' := _) (by exact ⟨rfl, ⟨rfl, ⟨rfl, ⟨rfl, trivial⟩⟩⟩⟩) h
theorem r_M_group_31 {d : Nat} {R : am_R} {I : Nat → Nat → Int32} {L : Nat → Nat → Int64} {g : Int32} {m : Nat} {a : Nat} (h : (((nI a) < (I 113 4) → (((((g >>> ((nI a) &&& 31)) &&& 1) = 0 → (am_Run am_X0 (am_meth d) 233 R 31 [some (.ref 113), none, some (.int g), some (.int (nI m)), some (.int (nI (a + 1))), none] [] (am_mk I L, 0, 0))) ∧ (¬ ((g >>> ((nI a) &&& 31)) &&& 1) = 0 → (am_Run am_X0 (am_meth d) 233 R 55 [some (.ref 113), none, some (.int g), some (.int (nI m)), some (.int (nI a)), some (.int 0)] [] (am_mk I L, 0, 0)))))) ∧ (¬ (nI a) < (I 113 4) → (am_Run am_X0 (am_meth d) 233 R 20 [some (.ref 113), none, some (.int g), some (.int (nI (m + 1))), none, none] [] (am_mk I L, 0, 0))))) : am_Run am_X0 (am_meth d) 233 R 31 [some (.ref 113), none, some (.int g), some (.int (nI m)), some (.int (nI a)), none] [] (am_mk I L, 0, 0) := by
  refine ar_iload (q := 33) rfl rfl rfl ?_
  refine ar_aload_n (j := 0) (q := 34) rfl rfl rfl rfl ?_
  refine ar_getf (v := .int (I 113 4)) (q := 37) rfl rfl mk_113 rfl rfl ?_
  obtain ⟨hA, hB⟩ := h
  refine ar_br am_d_ge (t := 94) (q := 40) rfl rfl rfl (fun c_1 => ?_) (fun c_1 => ?_)
  · have h := hB c_1
    clear hA hB
    refine ar_iinc (v := nI (m + 1)) (ls' := [some (.ref 113), none, some (.int g), some (.int (nI (m + 1))), some (.int (nI a)), none]) (q := 97) rfl rfl rfl (nI_1 _) rfl rfl ?_
    refine ar_goto (t := 20) rfl rfl ?_
    exact am_Run.weak (ls' := _) (by exact ⟨rfl, ⟨rfl, ⟨rfl, trivial⟩⟩⟩) h
  · have c_1 := Classical.not_not.mp c_1
    have h := hA c_1
    clear hA hB
    refine ar_iload_n (j := 2) (q := 41) rfl rfl rfl rfl ?_
    refine ar_iload (q := 43) rfl rfl rfl ?_
    refine ar_ib (i := .ishr) (z := g >>> ((nI a) &&& 31)) (q := 44) rfl rfl rfl rfl rfl ?_
    refine ar_iconst (v := 1) (q := 45) rfl rfl rfl ?_
    refine ar_ib (i := .iand) (z := (g >>> ((nI a) &&& 31)) &&& 1) (q := 46) rfl rfl rfl rfl rfl ?_
    obtain ⟨hA, hB⟩ := h
    refine ar_b0 am_c_ne (t := 52) (q := 49) rfl rfl rfl (fun c_2 => ?_) (fun c_2 => ?_)
    · have h := hB c_2
      clear hA hB
      refine ar_iconst (v := 0) (q := 53) rfl rfl rfl ?_
      refine ar_istore (ls' := [some (.ref 113), none, some (.int g), some (.int (nI m)), some (.int (nI a)), some (.int 0)]) (q := 55) rfl rfl rfl rfl ?_
      exact am_Run.weak (ls' := _) (by exact ⟨rfl, ⟨rfl, ⟨rfl, ⟨rfl, ⟨rfl, trivial⟩⟩⟩⟩⟩) h
    · have c_2 := Classical.not_not.mp c_2
      have h := hA c_2
      clear hA hB
      refine ar_goto (t := 88) rfl rfl ?_
      refine ar_iinc (v := nI (a + 1)) (ls' := [some (.ref 113), none, some (.int g), some (.int (nI m)), some (.int (nI (a + 1))), none]) (q := 91) rfl rfl rfl (nI_1 _) rfl rfl ?_
      refine ar_goto (t := 31) rfl rfl ?_
      exact am_Run.weak (ls' := _) (by exact ⟨rfl, ⟨rfl, ⟨rfl, ⟨rfl, trivial⟩⟩⟩⟩) h
theorem r_M_group_55 {d : Nat} (hd : 1 ≤ d) {R : am_R} {I : Nat → Nat → Int32} {L : Nat → Nat → Int64} {g : Int32} {m : Nat} {a : Nat} {b : Nat} (h : (((nI b) < (I 113 4) → ((a < 20) ∧ ((b < 20) ∧ (((s_alf (I 120) a b = true → (am_Run am_X0 (am_meth d) 233 R 55 [some (.ref 113), none, some (.int (g ||| (1 <<< ((nI b) &&& 31)))), some (.int (nI m)), some (.int (nI a)), some (.int (nI (b + 1)))] [] (am_mk I L, 0, 0))) ∧ (¬ (s_alf (I 120) a b = true) → (am_Run am_X0 (am_meth d) 233 R 55 [some (.ref 113), none, some (.int g), some (.int (nI m)), some (.int (nI a)), some (.int (nI (b + 1)))] [] (am_mk I L, 0, 0)))))))) ∧ (¬ (nI b) < (I 113 4) → (am_Run am_X0 (am_meth d) 233 R 31 [some (.ref 113), none, some (.int g), some (.int (nI m)), some (.int (nI (a + 1))), none] [] (am_mk I L, 0, 0))))) : am_Run am_X0 (am_meth d) 233 R 55 [some (.ref 113), none, some (.int g), some (.int (nI m)), some (.int (nI a)), some (.int (nI b))] [] (am_mk I L, 0, 0) := by
  refine ar_iload (q := 57) rfl rfl rfl ?_
  refine ar_aload_n (j := 0) (q := 58) rfl rfl rfl rfl ?_
  refine ar_getf (v := .int (I 113 4)) (q := 61) rfl rfl mk_113 rfl rfl ?_
  obtain ⟨hA, hB⟩ := h
  refine ar_br am_d_ge (t := 88) (q := 64) rfl rfl rfl (fun c_1 => ?_) (fun c_1 => ?_)
  · have h := hB c_1
    clear hA hB
    refine ar_iinc (v := nI (a + 1)) (ls' := [some (.ref 113), none, some (.int g), some (.int (nI m)), some (.int (nI (a + 1))), some (.int (nI b))]) (q := 91) rfl rfl rfl (nI_1 _) rfl rfl ?_
    refine ar_goto (t := 31) rfl rfl ?_
    exact am_Run.weak (ls' := _) (by exact ⟨rfl, ⟨rfl, ⟨rfl, ⟨rfl, trivial⟩⟩⟩⟩) h
  · have c_1 := Classical.not_not.mp c_1
    have h := hA c_1
    clear hA hB
    refine ar_aload_n (j := 0) (q := 65) rfl rfl rfl rfl ?_
    refine ar_iload (q := 67) rfl rfl rfl ?_
    refine ar_iload (q := 69) rfl rfl rfl ?_
    refine ar_invv (as := [.int (nI a), .int (nI b)]) (rest := []) (b2 := (0, 0)) (b3 := (0, 0)) (q := 72) rfl rfl rfl rfl mk_113 rfl rfl rfl rfl rfl ?_
    obtain ⟨hp_3, h⟩ := h
    obtain ⟨hp_4, h⟩ := h
    obtain ⟨hA, hB⟩ := h
    refine ok_M_alf (by omega) rfl rfl hp_3 hp_4 (fun c_2 => ?_) (fun c_2 => ?_)
    · have h := hA c_2
      clear hA hB
      show am_Run am_X0 (am_meth d) 233 R 72 [some (.ref 113), none, some (.int g), some (.int (nI m)), some (.int (nI a)), some (.int (nI b))] [.int 1] (am_mk I L, 0, 0)
      refine ar_b0 am_c_eq (t := 82) (q := 75) rfl rfl rfl (fun c9 => absurd c9 (by decide)) (fun _ => ?_)
      refine ar_iload_n (j := 2) (q := 76) rfl rfl rfl rfl ?_
      refine ar_iconst (v := 1) (q := 77) rfl rfl rfl ?_
      refine ar_iload (q := 79) rfl rfl rfl ?_
      refine ar_ib (i := .ishl) (z := 1 <<< ((nI b) &&& 31)) (q := 80) rfl rfl rfl rfl rfl ?_
      refine ar_ib (i := .ior) (z := g ||| (1 <<< ((nI b) &&& 31))) (q := 81) rfl rfl rfl rfl rfl ?_
      refine ar_istore_n (j := 2) (ls' := [some (.ref 113), none, some (.int (g ||| (1 <<< ((nI b) &&& 31)))), some (.int (nI m)), some (.int (nI a)), some (.int (nI b))]) (q := 82) rfl rfl rfl rfl rfl ?_
      refine ar_iinc (v := nI (b + 1)) (ls' := [some (.ref 113), none, some (.int (g ||| (1 <<< ((nI b) &&& 31)))), some (.int (nI m)), some (.int (nI a)), some (.int (nI (b + 1)))]) (q := 85) rfl rfl rfl (nI_1 _) rfl rfl ?_
      refine ar_goto (t := 55) rfl rfl ?_
      exact am_Run.weak (ls' := _) (by exact ⟨rfl, ⟨rfl, ⟨rfl, ⟨rfl, ⟨rfl, trivial⟩⟩⟩⟩⟩) h
    · have h := hB c_2
      clear hA hB
      show am_Run am_X0 (am_meth d) 233 R 72 [some (.ref 113), none, some (.int g), some (.int (nI m)), some (.int (nI a)), some (.int (nI b))] [.int 0] (am_mk I L, 0, 0)
      refine ar_b0 am_c_eq (t := 82) (q := 75) rfl rfl rfl (fun _ => ?_) (fun c9 => absurd (by decide) c9)
      refine ar_iinc (v := nI (b + 1)) (ls' := [some (.ref 113), none, some (.int g), some (.int (nI m)), some (.int (nI a)), some (.int (nI (b + 1)))]) (q := 85) rfl rfl rfl (nI_1 _) rfl rfl ?_
      refine ar_goto (t := 55) rfl rfl ?_
      exact am_Run.weak (ls' := _) (by exact ⟨rfl, ⟨rfl, ⟨rfl, ⟨rfl, ⟨rfl, trivial⟩⟩⟩⟩⟩) h
theorem r_M_group_102 {d : Nat} {R : am_R} {I : Nat → Nat → Int32} {L : Nat → Nat → Int64} {g : Int32} {j : Nat} (h : ((((g >>> ((nI j) &&& 31)) &&& 1) = 0 → (am_Run am_X0 (am_meth d) 233 R 102 [some (.ref 113), none, some (.int g), some (.int (nI (j + 1))), none, none] [] (am_mk I L, 0, 0))) ∧ (¬ ((g >>> ((nI j) &&& 31)) &&& 1) = 0 → (R (some (.int (nI j))) (am_mk I L, 0, 0))))) : am_Run am_X0 (am_meth d) 233 R 102 [some (.ref 113), none, some (.int g), some (.int (nI j)), none, none] [] (am_mk I L, 0, 0) := by
  refine ar_iload_n (j := 2) (q := 103) rfl rfl rfl rfl ?_
  refine ar_iload_n (j := 3) (q := 104) rfl rfl rfl rfl ?_
  refine ar_ib (i := .ishr) (z := g >>> ((nI j) &&& 31)) (q := 105) rfl rfl rfl rfl rfl ?_
  refine ar_iconst (v := 1) (q := 106) rfl rfl rfl ?_
  refine ar_ib (i := .iand) (z := (g >>> ((nI j) &&& 31)) &&& 1) (q := 107) rfl rfl rfl rfl rfl ?_
  obtain ⟨hA, hB⟩ := h
  refine ar_b0 am_c_ne (t := 116) (q := 110) rfl rfl rfl (fun c_1 => ?_) (fun c_1 => ?_)
  · have h := hB c_1
    clear hA hB
    refine ar_iload_n (j := 3) (q := 117) rfl rfl rfl rfl ?_
    exact ar_iret rfl rfl h
  · have c_1 := Classical.not_not.mp c_1
    have h := hA c_1
    clear hA hB
    refine ar_iinc (v := nI (j + 1)) (ls' := [some (.ref 113), none, some (.int g), some (.int (nI (j + 1))), none, none]) (q := 113) rfl rfl rfl (nI_1 _) rfl rfl ?_
    refine ar_goto (t := 102) rfl rfl ?_
    exact am_Run.weak (ls' := _) (by exact ⟨rfl, ⟨rfl, ⟨rfl, trivial⟩⟩⟩) h
