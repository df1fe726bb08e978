theorem r_H_worth_0 {d : Nat} (hd : 2 ≤ d) {R : am_R} {I : Nat → Nat → Int32} {L : Nat → Nat → Int64} {k : Int32} {s : Int32} (h : ((0 ≤ k ∧ k < I 16 0 → (((0 ≤ s ∧ s < I 66 1 → (am_meth d 107 [.ref 99, .int k, .int s] (am_mk I L, 0, 0) (am_ri (fun z_3 I_4 L_5 => R (some (.int z_3)) (am_mk I_4 L_5, 0, 0))))) ∧ (¬ (0 ≤ s ∧ s < I 66 1) → (R (some (.int (1000000000 - (-1 : Int32)))) (am_mk (am_rf I 1) L, 0, 0)))))) ∧ (¬ (0 ≤ k ∧ k < I 16 0) → (R (some (.int (1000000000 - (-1 : Int32)))) (am_mk (am_rf I 1) L, 0, 0))))) : am_Run am_X0 (am_meth d) 17 R 0 [some (.ref 0), some (.int k), some (.int s)] [] (am_mk I L, 0, 0) := by
  refine ar_aload_n (j := 0) (q := 1) rfl rfl rfl rfl ?_
  refine ar_getf (v := .ref 16) (q := 4) rfl rfl mk_0 rfl rfl ?_
  refine ar_iload_n (j := 1) (q := 5) rfl rfl rfl rfl ?_
  refine ar_invv (as := [.int k]) (rest := []) (b2 := (0, 0)) (b3 := (0, 0)) (q := 8) rfl rfl rfl rfl mk_16 rfl rfl rfl rfl rfl ?_
  obtain ⟨hA, hB⟩ := h
  refine ok_Ke_has (by omega)  (fun c_1 => ?_) (fun c_1 => ?_)
  · have h := hA c_1
    clear hA hB
    show am_Run am_X0 (am_meth d) 17 R 8 [some (.ref 0), some (.int k), some (.int s)] [.int 1] (am_mk I L, 0, 0)
    refine ar_b0 am_c_eq (t := 22) (q := 11) rfl rfl rfl (fun c9 => absurd c9 (by decide)) (fun _ => ?_)
    refine ar_aload_n (j := 0) (q := 12) rfl rfl rfl rfl ?_
    refine ar_getf (v := .ref 66) (q := 15) rfl rfl mk_0 rfl rfl ?_
    refine ar_iload_n (j := 2) (q := 16) rfl rfl rfl rfl ?_
    refine ar_invv (as := [.int s]) (rest := []) (b2 := (0, 0)) (b3 := (0, 0)) (q := 19) rfl rfl rfl rfl mk_66 rfl rfl rfl rfl rfl ?_
    obtain ⟨hA, hB⟩ := h
    refine ok_St_has (by omega)  (fun c_2 => ?_) (fun c_2 => ?_)
    · have h := hA c_2
      clear hA hB
      show am_Run am_X0 (am_meth d) 17 R 19 [some (.ref 0), some (.int k), some (.int s)] [.int 1] (am_mk I L, 0, 0)
      refine ar_b0 am_c_ne (t := 28) (q := 22) rfl rfl rfl (fun _ => ?_) (fun c9 => absurd (by decide) c9)
      refine ar_aload_n (j := 0) (q := 29) rfl rfl rfl rfl ?_
      refine ar_getf (v := .ref 99) (q := 32) rfl rfl mk_0 rfl rfl ?_
      refine ar_iload_n (j := 1) (q := 33) rfl rfl rfl rfl ?_
      refine ar_iload_n (j := 2) (q := 34) rfl rfl rfl rfl ?_
      refine ar_invv (as := [.int k, .int s]) (rest := []) (b2 := (0, 0)) (b3 := (0, 0)) (q := 37) rfl rfl rfl rfl mk_99 rfl rfl rfl rfl rfl ?_
      refine am_meth_mono d _ _ _ _ _ (fun v9 m9 h9 => ?_) h
      obtain ⟨z_3, I_4, L_5, rfl, rfl, h⟩ := h9
      show am_Run am_X0 (am_meth d) 17 R 37 [some (.ref 0), some (.int k), some (.int s)] [.int z_3] (am_mk I_4 L_5, 0, 0)
      exact ar_iret rfl rfl h
    · have h := hB c_2
      clear hA hB
      show am_Run am_X0 (am_meth d) 17 R 19 [some (.ref 0), some (.int k), some (.int s)] [.int 0] (am_mk I L, 0, 0)
      refine ar_b0 am_c_ne (t := 28) (q := 22) rfl rfl rfl (fun c9 => absurd (by decide) c9) (fun _ => ?_)
      refine ar_aload_n (j := 0) (q := 23) rfl rfl rfl rfl ?_
      refine ar_iconst (v := (-1 : Int32)) (q := 24) rfl rfl rfl ?_
      refine ar_invv (as := [.int (-1 : Int32)]) (rest := []) (b2 := (0, 0)) (b3 := (0, 0)) (q := 27) rfl rfl rfl rfl mk_0 rfl rfl rfl rfl rfl ?_
      refine ok_refuseBeyond (j := 1) (by omega) (by decide) (by decide) ?_
      show am_Run am_X0 (am_meth d) 17 R 27 [some (.ref 0), some (.int k), some (.int s)] [.int (1000000000 - (-1 : Int32))] (am_mk (am_rf I 1) L, 0, 0)
      exact ar_iret rfl rfl h
  · have h := hB c_1
    clear hA hB
    show am_Run am_X0 (am_meth d) 17 R 8 [some (.ref 0), some (.int k), some (.int s)] [.int 0] (am_mk I L, 0, 0)
    refine ar_b0 am_c_eq (t := 22) (q := 11) rfl rfl rfl (fun _ => ?_) (fun c9 => absurd (by decide) c9)
    refine ar_aload_n (j := 0) (q := 23) rfl rfl rfl rfl ?_
    refine ar_iconst (v := (-1 : Int32)) (q := 24) rfl rfl rfl ?_
    refine ar_invv (as := [.int (-1 : Int32)]) (rest := []) (b2 := (0, 0)) (b3 := (0, 0)) (q := 27) rfl rfl rfl rfl mk_0 rfl rfl rfl rfl rfl ?_
    refine ok_refuseBeyond (j := 1) (by omega) (by decide) (by decide) ?_
    show am_Run am_X0 (am_meth d) 17 R 27 [some (.ref 0), some (.int k), some (.int s)] [.int (1000000000 - (-1 : Int32))] (am_mk (am_rf I 1) L, 0, 0)
    exact ar_iret rfl rfl h
theorem r_M_worth_0 {d : Nat} (hd : 2 ≤ d) {R : am_R} {I : Nat → Nat → Int32} {L : Nat → Nat → Int64} {k : Int32} {s : Int32} (h : ((0 ≤ k ∧ k < I 113 4 → (((0 ≤ s ∧ s < I 113 14 → (am_meth d 172 [.ref 113, .int k, .int s] (am_mk I L, 0, 0) (am_ri (fun z_3 I_4 L_5 => R (some (.int z_3)) (am_mk I_4 L_5, 0, 0))))) ∧ (¬ (0 ≤ s ∧ s < I 113 14) → (R (some (.int (1000000000 - (-1 : Int32)))) (am_mk (am_no I 1) L, 0, 0)))))) ∧ (¬ (0 ≤ k ∧ k < I 113 4) → (R (some (.int (1000000000 - (-1 : Int32)))) (am_mk (am_no I 1) L, 0, 0))))) : am_Run am_X0 (am_meth d) 198 R 0 [some (.ref 113), some (.int k), some (.int s)] [] (am_mk I L, 0, 0) := by
  refine ar_aload_n (j := 0) (q := 1) rfl rfl rfl rfl ?_
  refine ar_iload_n (j := 1) (q := 2) rfl rfl rfl rfl ?_
  refine ar_invv (as := [.int k]) (rest := []) (b2 := (0, 0)) (b3 := (0, 0)) (q := 5) rfl rfl rfl rfl mk_113 rfl rfl rfl rfl rfl ?_
  obtain ⟨hA, hB⟩ := h
  refine ok_M_isKeeper (by omega)  (fun c_1 => ?_) (fun c_1 => ?_)
  · have h := hA c_1
    clear hA hB
    show am_Run am_X0 (am_meth d) 198 R 5 [some (.ref 113), some (.int k), some (.int s)] [.int 1] (am_mk I L, 0, 0)
    refine ar_b0 am_c_eq (t := 16) (q := 8) rfl rfl rfl (fun c9 => absurd c9 (by decide)) (fun _ => ?_)
    refine ar_aload_n (j := 0) (q := 9) rfl rfl rfl rfl ?_
    refine ar_iload_n (j := 2) (q := 10) rfl rfl rfl rfl ?_
    refine ar_invv (as := [.int s]) (rest := []) (b2 := (0, 0)) (b3 := (0, 0)) (q := 13) rfl rfl rfl rfl mk_113 rfl rfl rfl rfl rfl ?_
    obtain ⟨hA, hB⟩ := h
    refine ok_M_isStay (by omega)  (fun c_2 => ?_) (fun c_2 => ?_)
    · have h := hA c_2
      clear hA hB
      show am_Run am_X0 (am_meth d) 198 R 13 [some (.ref 113), some (.int k), some (.int s)] [.int 1] (am_mk I L, 0, 0)
      refine ar_b0 am_c_ne (t := 22) (q := 16) rfl rfl rfl (fun _ => ?_) (fun c9 => absurd (by decide) c9)
      refine ar_aload_n (j := 0) (q := 23) rfl rfl rfl rfl ?_
      refine ar_iload_n (j := 1) (q := 24) rfl rfl rfl rfl ?_
      refine ar_iload_n (j := 2) (q := 25) rfl rfl rfl rfl ?_
      refine ar_invv (as := [.int k, .int s]) (rest := []) (b2 := (0, 0)) (b3 := (0, 0)) (q := 28) rfl rfl rfl rfl mk_113 rfl rfl rfl rfl rfl ?_
      refine am_meth_mono d _ _ _ _ _ (fun v9 m9 h9 => ?_) h
      obtain ⟨z_3, I_4, L_5, rfl, rfl, h⟩ := h9
      show am_Run am_X0 (am_meth d) 198 R 28 [some (.ref 113), some (.int k), some (.int s)] [.int z_3] (am_mk I_4 L_5, 0, 0)
      exact ar_iret rfl rfl h
    · have h := hB c_2
      clear hA hB
      show am_Run am_X0 (am_meth d) 198 R 13 [some (.ref 113), some (.int k), some (.int s)] [.int 0] (am_mk I L, 0, 0)
      refine ar_b0 am_c_ne (t := 22) (q := 16) rfl rfl rfl (fun c9 => absurd (by decide) c9) (fun _ => ?_)
      refine ar_aload_n (j := 0) (q := 17) rfl rfl rfl rfl ?_
      refine ar_iconst (v := (-1 : Int32)) (q := 18) rfl rfl rfl ?_
      refine ar_invv (as := [.int (-1 : Int32)]) (rest := []) (b2 := (0, 0)) (b3 := (0, 0)) (q := 21) rfl rfl rfl rfl mk_113 rfl rfl rfl rfl rfl ?_
      refine ok_far (j := 1) (by omega) (by decide) (by decide) ?_
      show am_Run am_X0 (am_meth d) 198 R 21 [some (.ref 113), some (.int k), some (.int s)] [.int (1000000000 - (-1 : Int32))] (am_mk (am_no I 1) L, 0, 0)
      exact ar_iret rfl rfl h
  · have h := hB c_1
    clear hA hB
    show am_Run am_X0 (am_meth d) 198 R 5 [some (.ref 113), some (.int k), some (.int s)] [.int 0] (am_mk I L, 0, 0)
    refine ar_b0 am_c_eq (t := 16) (q := 8) rfl rfl rfl (fun _ => ?_) (fun c9 => absurd (by decide) c9)
    refine ar_aload_n (j := 0) (q := 17) rfl rfl rfl rfl ?_
    refine ar_iconst (v := (-1 : Int32)) (q := 18) rfl rfl rfl ?_
    refine ar_invv (as := [.int (-1 : Int32)]) (rest := []) (b2 := (0, 0)) (b3 := (0, 0)) (q := 21) rfl rfl rfl rfl mk_113 rfl rfl rfl rfl rfl ?_
    refine ok_far (j := 1) (by omega) (by decide) (by decide) ?_
    show am_Run am_X0 (am_meth d) 198 R 21 [some (.ref 113), some (.int k), some (.int s)] [.int (1000000000 - (-1 : Int32))] (am_mk (am_no I 1) L, 0, 0)
    exact ar_iret rfl rfl h
theorem r_Match_stayPrefers_0 {d : Nat} {R : am_R} {I : Nat → Nat → Int32} {L : Nat → Nat → Int64} {a : Nat} {b : Nat} (h : a < 20 ∧ (b < 20 ∧ ((((I 76 a) = (I 76 b) → ((((nI a) < (nI b) → (R (some (.int 1)) (am_mk I L, 0, 0))) ∧ (¬ (nI a) < (nI b) → (R (some (.int 0)) (am_mk I L, 0, 0)))))) ∧ (¬ (I 76 a) = (I 76 b) → ((((I 76 a) ≤ (I 76 b) → (R (some (.int 0)) (am_mk I L, 0, 0))) ∧ (¬ (I 76 a) ≤ (I 76 b) → (R (some (.int 1)) (am_mk I L, 0, 0)))))))))) : am_Run am_X0 (am_meth d) 67 R 0 [some (.ref 106), some (.int (nI a)), some (.int (nI b)), none, none] [] (am_mk I L, 0, 0) := by
  refine ar_aload_n (j := 0) (q := 1) rfl rfl rfl rfl ?_
  refine ar_getf (v := .ref 74) (q := 4) rfl rfl mk_106 rfl rfl ?_
  refine ar_getf (v := .ref 76) (q := 7) rfl rfl mk_74 rfl rfl ?_
  refine ar_iload_n (j := 1) (q := 8) rfl rfl rfl rfl ?_
  obtain ⟨hx_1, h⟩ := h
  refine ar_iald (v := I 76 a) (q := 9) rfl mk_76 (am_inE rfl hx_1 (by decide)) (am_clE (n := 20) rfl hx_1 (by decide)) rfl ?_
  refine ar_istore_n (j := 3) (ls' := [some (.ref 106), some (.int (nI a)), some (.int (nI b)), some (.int (I 76 a)), none]) (q := 10) rfl rfl rfl rfl rfl ?_
  refine ar_aload_n (j := 0) (q := 11) rfl rfl rfl rfl ?_
  refine ar_getf (v := .ref 74) (q := 14) rfl rfl mk_106 rfl rfl ?_
  refine ar_getf (v := .ref 76) (q := 17) rfl rfl mk_74 rfl rfl ?_
  refine ar_iload_n (j := 2) (q := 18) rfl rfl rfl rfl ?_
  obtain ⟨hx_2, h⟩ := h
  refine ar_iald (v := I 76 b) (q := 19) rfl mk_76 (am_inE rfl hx_2 (by decide)) (am_clE (n := 20) rfl hx_2 (by decide)) rfl ?_
  refine ar_istore (ls' := [some (.ref 106), some (.int (nI a)), some (.int (nI b)), some (.int (I 76 a)), some (.int (I 76 b))]) (q := 21) rfl rfl rfl rfl ?_
  refine ar_iload_n (j := 3) (q := 22) rfl rfl rfl rfl ?_
  refine ar_iload (q := 24) rfl rfl rfl ?_
  obtain ⟨hA, hB⟩ := h
  refine ar_br am_c_ne (t := 40) (q := 27) rfl rfl rfl (fun c_3 => ?_) (fun c_3 => ?_)
  · have h := hB c_3
    clear hA hB
    refine ar_iload_n (j := 3) (q := 41) rfl rfl rfl rfl ?_
    refine ar_iload (q := 43) rfl rfl rfl ?_
    obtain ⟨hA, hB⟩ := h
    refine ar_br am_c_le (t := 50) (q := 46) rfl rfl rfl (fun c_5 => ?_) (fun c_5 => ?_)
    · have h := hA c_5
      clear hA hB
      refine ar_iconst (v := 0) (q := 51) rfl rfl rfl ?_
      exact ar_zret rfl rfl (Or.inl rfl) h
    · have h := hB c_5
      clear hA hB
      refine ar_iconst (v := 1) (q := 47) rfl rfl rfl ?_
      refine ar_goto (t := 51) rfl rfl ?_
      exact ar_zret rfl rfl (Or.inr rfl) h
  · have c_3 := Classical.not_not.mp c_3
    have h := hA c_3
    clear hA hB
    refine ar_iload_n (j := 1) (q := 28) rfl rfl rfl rfl ?_
    refine ar_iload_n (j := 2) (q := 29) rfl rfl rfl rfl ?_
    obtain ⟨hA, hB⟩ := h
    refine ar_br am_d_ge (t := 36) (q := 32) rfl rfl rfl (fun c_4 => ?_) (fun c_4 => ?_)
    · have h := hB c_4
      clear hA hB
      refine ar_iconst (v := 0) (q := 37) rfl rfl rfl ?_
      refine ar_goto (t := 51) rfl rfl ?_
      exact ar_zret rfl rfl (Or.inl rfl) h
    · have c_4 := Classical.not_not.mp c_4
      have h := hA c_4
      clear hA hB
      refine ar_iconst (v := 1) (q := 33) rfl rfl rfl ?_
      refine ar_goto (t := 51) rfl rfl ?_
      exact ar_zret rfl rfl (Or.inr rfl) h
theorem r_M_prefers_0 {d : Nat} {R : am_R} {I : Nat → Nat → Int32} {L : Nat → Nat → Int64} {a : Nat} {b : Int32} (h : ((b < 0 → (R (some (.int 1)) (am_mk I L, 0, 0))) ∧ (¬ b < 0 → (am_meth d 184 [.ref 113, .int (nI a), .int (I 113 0)] (am_mk I L, 0, 0) (am_ri (fun z_2 I_3 L_4 => am_meth d 184 [.ref 113, .int b, .int (I_3 113 0)] (am_mk I_3 L_4, 0, 0) (am_ri (fun z_5 I_6 L_7 => ((z_2 ≤ z_5 → (((z_2 = z_5 → ((((nI a) < b → (R (some (.int 1)) (am_mk I_6 L_7, 0, 0))) ∧ (¬ (nI a) < b → (R (some (.int 0)) (am_mk I_6 L_7, 0, 0)))))) ∧ (¬ z_2 = z_5 → (R (some (.int 0)) (am_mk I_6 L_7, 0, 0)))))) ∧ (¬ z_2 ≤ z_5 → (R (some (.int 1)) (am_mk I_6 L_7, 0, 0)))))))))))) : am_Run am_X0 (am_meth d) 223 R 0 [some (.ref 113), some (.int (nI a)), some (.int b), none, none] [] (am_mk I L, 0, 0) := by
  refine ar_iload_n (j := 2) (q := 1) rfl rfl rfl rfl ?_
  obtain ⟨hA, hB⟩ := h
  refine ar_b0 am_d_ge (t := 6) (q := 4) rfl rfl rfl (fun c_1 => ?_) (fun c_1 => ?_)
  · have h := hB c_1
    clear hA hB
    refine ar_aload_n (j := 0) (q := 7) rfl rfl rfl rfl ?_
    refine ar_iload_n (j := 1) (q := 8) rfl rfl rfl rfl ?_
    refine ar_aload_n (j := 0) (q := 9) rfl rfl rfl rfl ?_
    refine ar_getf (v := .int (I 113 0)) (q := 12) rfl rfl mk_113 rfl rfl ?_
    refine ar_invv (as := [.int (nI a), .int (I 113 0)]) (rest := []) (b2 := (0, 0)) (b3 := (0, 0)) (q := 15) rfl rfl rfl rfl mk_113 rfl rfl rfl rfl rfl ?_
    refine am_meth_mono d _ _ _ _ _ (fun v9 m9 h9 => ?_) h
    obtain ⟨z_2, I_3, L_4, rfl, rfl, h⟩ := h9
    show am_Run am_X0 (am_meth d) 223 R 15 [some (.ref 113), some (.int (nI a)), some (.int b), none, none] [.int z_2] (am_mk I_3 L_4, 0, 0)
    refine ar_istore_n (j := 3) (ls' := [some (.ref 113), some (.int (nI a)), some (.int b), some (.int z_2), none]) (q := 16) rfl rfl rfl rfl rfl ?_
    refine ar_aload_n (j := 0) (q := 17) rfl rfl rfl rfl ?_
    refine ar_iload_n (j := 2) (q := 18) rfl rfl rfl rfl ?_
    refine ar_aload_n (j := 0) (q := 19) rfl rfl rfl rfl ?_
    refine ar_getf (v := .int (I_3 113 0)) (q := 22) rfl rfl mk_113 rfl rfl ?_
    refine ar_invv (as := [.int b, .int (I_3 113 0)]) (rest := []) (b2 := (0, 0)) (b3 := (0, 0)) (q := 25) rfl rfl rfl rfl mk_113 rfl rfl rfl rfl rfl ?_
    refine am_meth_mono d _ _ _ _ _ (fun v9 m9 h9 => ?_) h
    obtain ⟨z_5, I_6, L_7, rfl, rfl, h⟩ := h9
    show am_Run am_X0 (am_meth d) 223 R 25 [some (.ref 113), some (.int (nI a)), some (.int b), some (.int z_2), none] [.int z_5] (am_mk I_6 L_7, 0, 0)
    refine ar_istore (ls' := [some (.ref 113), some (.int (nI a)), some (.int b), some (.int z_2), some (.int z_5)]) (q := 27) rfl rfl rfl rfl ?_
    refine ar_iload_n (j := 3) (q := 28) rfl rfl rfl rfl ?_
    refine ar_iload (q := 30) rfl rfl rfl ?_
    obtain ⟨hA, hB⟩ := h
    refine ar_br am_d_gt (t := 44) (q := 33) rfl rfl rfl (fun c_8 => ?_) (fun c_8 => ?_)
    · have h := hB c_8
      clear hA hB
      refine ar_iconst (v := 1) (q := 45) rfl rfl rfl ?_
      refine ar_goto (t := 49) rfl rfl ?_
      exact ar_zret rfl rfl (Or.inr rfl) h
    · have c_8 := Classical.not_not.mp c_8
      have h := hA c_8
      clear hA hB
      refine ar_iload_n (j := 3) (q := 34) rfl rfl rfl rfl ?_
      refine ar_iload (q := 36) rfl rfl rfl ?_
      obtain ⟨hA, hB⟩ := h
      refine ar_br am_c_ne (t := 48) (q := 39) rfl rfl rfl (fun c_9 => ?_) (fun c_9 => ?_)
      · have h := hB c_9
        clear hA hB
        refine ar_iconst (v := 0) (q := 49) rfl rfl rfl ?_
        exact ar_zret rfl rfl (Or.inl rfl) h
      · have c_9 := Classical.not_not.mp c_9
        have h := hA c_9
        clear hA hB
        refine ar_iload_n (j := 1) (q := 40) rfl rfl rfl rfl ?_
        refine ar_iload_n (j := 2) (q := 41) rfl rfl rfl rfl ?_
        obtain ⟨hA, hB⟩ := h
        refine ar_br am_d_ge (t := 48) (q := 44) rfl rfl rfl (fun c_10 => ?_) (fun c_10 => ?_)
        · have h := hB c_10
          clear hA hB
          refine ar_iconst (v := 0) (q := 49) rfl rfl rfl ?_
          exact ar_zret rfl rfl (Or.inl rfl) h
        · have c_10 := Classical.not_not.mp c_10
          have h := hA c_10
          clear hA hB
          refine ar_iconst (v := 1) (q := 45) rfl rfl rfl ?_
          refine ar_goto (t := 49) rfl rfl ?_
          exact ar_zret rfl rfl (Or.inr rfl) h
  · have c_1 := Classical.not_not.mp c_1
    have h := hA c_1
    clear hA hB
    refine ar_iconst (v := 1) (q := 5) rfl rfl rfl ?_
    exact ar_zret rfl rfl (Or.inr rfl) h
theorem r_H_whoElse_0 {d : Nat} (hd : 1 ≤ d) {R : am_R} {I : Nat → Nat → Int32} {L : Nat → Nat → Int64} {s : Int32} (h : ((0 ≤ s ∧ s < I 66 1 → (am_meth d 70 [.ref 106, .int s] (am_mk I L, 0, 0) (am_ri (fun z_2 I_3 L_4 => R (some (.int z_2)) (am_mk I_3 L_4, 0, 0))))) ∧ (¬ (0 ≤ s ∧ s < I 66 1) → (R (some (.int (-1 : Int32))) (am_mk (am_rf I 1) L, 0, 0))))) : am_Run am_X0 (am_meth d) 35 R 0 [some (.ref 0), some (.int s)] [] (am_mk I L, 0, 0) := by
  refine ar_aload_n (j := 0) (q := 1) rfl rfl rfl rfl ?_
  refine ar_getf (v := .ref 66) (q := 4) rfl rfl mk_0 rfl rfl ?_
  refine ar_iload_n (j := 1) (q := 5) rfl rfl rfl rfl ?_
  refine ar_invv (as := [.int s]) (rest := []) (b2 := (0, 0)) (b3 := (0, 0)) (q := 8) rfl rfl rfl rfl mk_66 rfl rfl rfl rfl rfl ?_
  obtain ⟨hA, hB⟩ := h
  refine ok_St_has (by omega)  (fun c_1 => ?_) (fun c_1 => ?_)
  · have h := hA c_1
    clear hA hB
    show am_Run am_X0 (am_meth d) 35 R 8 [some (.ref 0), some (.int s)] [.int 1] (am_mk I L, 0, 0)
    refine ar_b0 am_c_ne (t := 17) (q := 11) rfl rfl rfl (fun _ => ?_) (fun c9 => absurd (by decide) c9)
    refine ar_aload_n (j := 0) (q := 18) rfl rfl rfl rfl ?_
    refine ar_getf (v := .ref 106) (q := 21) rfl rfl mk_0 rfl rfl ?_
    refine ar_iload_n (j := 1) (q := 22) rfl rfl rfl rfl ?_
    refine ar_invv (as := [.int s]) (rest := []) (b2 := (0, 0)) (b3 := (0, 0)) (q := 25) rfl rfl rfl rfl mk_106 rfl rfl rfl rfl rfl ?_
    refine am_meth_mono d _ _ _ _ _ (fun v9 m9 h9 => ?_) h
    obtain ⟨z_2, I_3, L_4, rfl, rfl, h⟩ := h9
    show am_Run am_X0 (am_meth d) 35 R 25 [some (.ref 0), some (.int s)] [.int z_2] (am_mk I_3 L_4, 0, 0)
    exact ar_iret rfl rfl h
  · have h := hB c_1
    clear hA hB
    show am_Run am_X0 (am_meth d) 35 R 8 [some (.ref 0), some (.int s)] [.int 0] (am_mk I L, 0, 0)
    refine ar_b0 am_c_ne (t := 17) (q := 11) rfl rfl rfl (fun c9 => absurd (by decide) c9) (fun _ => ?_)
    refine ar_aload_n (j := 0) (q := 12) rfl rfl rfl rfl ?_
    refine ar_iconst (v := (-1 : Int32)) (q := 13) rfl rfl rfl ?_
    refine ar_invv (as := [.int (-1 : Int32)]) (rest := []) (b2 := (0, 0)) (b3 := (0, 0)) (q := 16) rfl rfl rfl rfl mk_0 rfl rfl rfl rfl rfl ?_
    refine ok_refuse (j := 1) (by omega) (by decide) (by decide) ?_
    show am_Run am_X0 (am_meth d) 35 R 16 [some (.ref 0), some (.int s)] [.int (-1 : Int32)] (am_mk (am_rf I 1) L, 0, 0)
    exact ar_iret rfl rfl h
theorem r_Match_nearestFor_0 {d : Nat} {R : am_R} {I : Nat → Nat → Int32} {L : Nat → Nat → Int64} {s : Nat} (h : s < 60 ∧ ((((I 70 s) = 0 → (am_meth d 76 [.ref 74, .int (I 66 0)] (am_mk I L, 0, 0) (am_rv (fun I_3 L_4 => am_Run am_X0 (am_meth d) 70 R 37 [some (.ref 106), some (.int (nI s)), some (.int (-9 : Int32)), some (.int 0), some (.int 0), none, none] [] (am_mk I_3 L_4, 0, 0))))) ∧ (¬ (I 70 s) = 0 → (R (some (.int (-9 : Int32))) (am_mk I L, 0, 0)))))) : am_Run am_X0 (am_meth d) 70 R 0 [some (.ref 106), some (.int (nI s)), none, none, none, none, none] [] (am_mk I L, 0, 0) := by
  refine ar_aload_n (j := 0) (q := 1) rfl rfl rfl rfl ?_
  refine ar_getf (v := .ref 66) (q := 4) rfl rfl mk_106 rfl rfl ?_
  refine ar_getf (v := .ref 70) (q := 7) rfl rfl mk_66 rfl rfl ?_
  refine ar_iload_n (j := 1) (q := 8) rfl rfl rfl rfl ?_
  obtain ⟨hx_1, h⟩ := h
  refine ar_iald (v := I 70 s) (q := 9) rfl mk_70 (am_inE rfl hx_1 (by decide)) (am_clE (n := 60) rfl hx_1 (by decide)) rfl ?_
  obtain ⟨hA, hB⟩ := h
  refine ar_b0 am_c_eq (t := 15) (q := 12) rfl rfl rfl (fun c_2 => ?_) (fun c_2 => ?_)
  · have h := hA c_2
    clear hA hB
    refine ar_aload_n (j := 0) (q := 16) rfl rfl rfl rfl ?_
    refine ar_getf (v := .ref 74) (q := 19) rfl rfl mk_106 rfl rfl ?_
    refine ar_aload_n (j := 0) (q := 20) rfl rfl rfl rfl ?_
    refine ar_getf (v := .ref 66) (q := 23) rfl rfl mk_106 rfl rfl ?_
    refine ar_getf (v := .int (I 66 0)) (q := 26) rfl rfl mk_66 rfl rfl ?_
    refine ar_invv (as := [.int (I 66 0)]) (rest := []) (b2 := (0, 0)) (b3 := (0, 0)) (q := 29) rfl rfl rfl rfl mk_74 rfl rfl rfl rfl rfl ?_
    refine am_meth_mono d _ _ _ _ _ (fun v9 m9 h9 => ?_) h
    obtain ⟨I_3, L_4, rfl, rfl, h⟩ := h9
    show am_Run am_X0 (am_meth d) 70 R 29 [some (.ref 106), some (.int (nI s)), none, none, none, none, none] [] (am_mk I_3 L_4, 0, 0)
    refine ar_bipush (v := (-9 : Int32)) (q := 31) rfl rfl rfl ?_
    refine ar_istore_n (j := 2) (ls' := [some (.ref 106), some (.int (nI s)), some (.int (-9 : Int32)), none, none, none, none]) (q := 32) rfl rfl rfl rfl rfl ?_
    refine ar_iconst (v := 0) (q := 33) rfl rfl rfl ?_
    refine ar_istore_n (j := 3) (ls' := [some (.ref 106), some (.int (nI s)), some (.int (-9 : Int32)), some (.int 0), none, none, none]) (q := 34) rfl rfl rfl rfl rfl ?_
    refine ar_iconst (v := 0) (q := 35) rfl rfl rfl ?_
    refine ar_istore (ls' := [some (.ref 106), some (.int (nI s)), some (.int (-9 : Int32)), some (.int 0), some (.int 0), none, none]) (q := 37) rfl rfl rfl rfl ?_
    exact am_Run.weak (ls' := _) (by exact ⟨rfl, ⟨rfl, ⟨rfl, ⟨rfl, ⟨rfl, trivial⟩⟩⟩⟩⟩) h
  · have h := hB c_2
    clear hA hB
    refine ar_bipush (v := (-9 : Int32)) (q := 14) rfl rfl rfl ?_
    exact ar_iret rfl rfl h
theorem r_Match_nearestFor_37 {d : Nat} {R : am_R} {I : Nat → Nat → Int32} {L : Nat → Nat → Int64} {s : Nat} {best : Int32} {bh : Int32} {k : Nat} (h : (((nI k) < (I 16 0) → (am_meth d 93 [.ref 99, .int (nI k)] (am_mk I L, 0, 0) (am_rv (fun I_2 L_3 => am_meth d 95 [.ref 99, .int (nI k), .int (nI s)] (am_mk I_2 L_3, 0, 0) (am_ri (fun z_4 I_5 L_6 => ((z_4 = 0 → (am_meth d 113 [.ref 99, .int (nI k), .int (nI s)] (am_mk I_5 L_6, 0, 0) (am_ri (fun z_8 I_9 L_10 => ((z_8 = bh → (((best = (-9 : Int32) → (am_Run am_X0 (am_meth d) 70 R 37 [some (.ref 106), some (.int (nI s)), some (.int (nI k)), some (.int z_8), some (.int (nI (k + 1))), none, none] [] (am_mk I_9 L_10, 0, 0))) ∧ (¬ best = (-9 : Int32) → (am_meth d 67 [.ref 106, .int (nI k), .int best] (am_mk I_9 L_10, 0, 0) (am_ri (fun z_13 I_14 L_15 => ((z_13 = 0 → (am_Run am_X0 (am_meth d) 70 R 37 [some (.ref 106), some (.int (nI s)), some (.int best), some (.int bh), some (.int (nI (k + 1))), none, none] [] (am_mk I_14 L_15, 0, 0))) ∧ (¬ z_13 = 0 → (am_Run am_X0 (am_meth d) 70 R 37 [some (.ref 106), some (.int (nI s)), some (.int (nI k)), some (.int z_8), some (.int (nI (k + 1))), none, none] [] (am_mk I_14 L_15, 0, 0))))))))))) ∧ (¬ z_8 = bh → (((z_8 < bh → (((best = (-9 : Int32) → (am_Run am_X0 (am_meth d) 70 R 37 [some (.ref 106), some (.int (nI s)), some (.int (nI k)), some (.int z_8), some (.int (nI (k + 1))), none, none] [] (am_mk I_9 L_10, 0, 0))) ∧ (¬ best = (-9 : Int32) → (am_Run am_X0 (am_meth d) 70 R 37 [some (.ref 106), some (.int (nI s)), some (.int (nI k)), some (.int z_8), some (.int (nI (k + 1))), none, none] [] (am_mk I_9 L_10, 0, 0)))))) ∧ (¬ z_8 < bh → (((best = (-9 : Int32) → (am_Run am_X0 (am_meth d) 70 R 37 [some (.ref 106), some (.int (nI s)), some (.int (nI k)), some (.int z_8), some (.int (nI (k + 1))), none, none] [] (am_mk I_9 L_10, 0, 0))) ∧ (¬ best = (-9 : Int32) → (am_Run am_X0 (am_meth d) 70 R 37 [some (.ref 106), some (.int (nI s)), some (.int best), some (.int bh), some (.int (nI (k + 1))), none, none] [] (am_mk I_9 L_10, 0, 0)))))))))))))) ∧ (¬ z_4 = 0 → (am_Run am_X0 (am_meth d) 70 R 37 [some (.ref 106), some (.int (nI s)), some (.int best), some (.int bh), some (.int (nI (k + 1))), none, none] [] (am_mk I_5 L_6, 0, 0)))))))))) ∧ (¬ (nI k) < (I 16 0) → (R (some (.int best)) (am_mk I L, 0, 0))))) : am_Run am_X0 (am_meth d) 70 R 37 [some (.ref 106), some (.int (nI s)), some (.int best), some (.int bh), some (.int (nI k)), none, none] [] (am_mk I L, 0, 0) := by
  refine ar_iload (q := 39) rfl rfl rfl ?_
  refine ar_aload_n (j := 0) (q := 40) rfl rfl rfl rfl ?_
  refine ar_getf (v := .ref 16) (q := 43) rfl rfl mk_106 rfl rfl ?_
  refine ar_getf (v := .int (I 16 0)) (q := 46) rfl rfl mk_16 rfl rfl ?_
  obtain ⟨hA, hB⟩ := h
  refine ar_br am_d_ge (t := 152) (q := 49) rfl rfl rfl (fun c_1 => ?_) (fun c_1 => ?_)
  · have h := hB c_1
    clear hA hB
    refine ar_iload_n (j := 2) (q := 153) rfl rfl rfl rfl ?_
    exact ar_iret rfl rfl h
  · have c_1 := Classical.not_not.mp c_1
    have h := hA c_1
    clear hA hB
    refine ar_aload_n (j := 0) (q := 50) rfl rfl rfl rfl ?_
    refine ar_getf (v := .ref 99) (q := 53) rfl rfl mk_106 rfl rfl ?_
    refine ar_iload (q := 55) rfl rfl rfl ?_
    refine ar_invv (as := [.int (nI k)]) (rest := []) (b2 := (0, 0)) (b3 := (0, 0)) (q := 58) rfl rfl rfl rfl mk_99 rfl rfl rfl rfl rfl ?_
    refine am_meth_mono d _ _ _ _ _ (fun v9 m9 h9 => ?_) h
    obtain ⟨I_2, L_3, rfl, rfl, h⟩ := h9
    show am_Run am_X0 (am_meth d) 70 R 58 [some (.ref 106), some (.int (nI s)), some (.int best), some (.int bh), some (.int (nI k)), none, none] [] (am_mk I_2 L_3, 0, 0)
    refine ar_aload_n (j := 0) (q := 59) rfl rfl rfl rfl ?_
    refine ar_getf (v := .ref 99) (q := 62) rfl rfl mk_106 rfl rfl ?_
    refine ar_iload (q := 64) rfl rfl rfl ?_
    refine ar_iload_n (j := 1) (q := 65) rfl rfl rfl rfl ?_
    refine ar_invv (as := [.int (nI k), .int (nI s)]) (rest := []) (b2 := (0, 0)) (b3 := (0, 0)) (q := 68) rfl rfl rfl rfl mk_99 rfl rfl rfl rfl rfl ?_
    refine am_meth_mono d _ _ _ _ _ (fun v9 m9 h9 => ?_) h
    obtain ⟨z_4, I_5, L_6, rfl, rfl, h⟩ := h9
    show am_Run am_X0 (am_meth d) 70 R 68 [some (.ref 106), some (.int (nI s)), some (.int best), some (.int bh), some (.int (nI k)), none, none] [.int z_4] (am_mk I_5 L_6, 0, 0)
    obtain ⟨hA, hB⟩ := h
    refine ar_b0 am_c_eq (t := 74) (q := 71) rfl rfl rfl (fun c_7 => ?_) (fun c_7 => ?_)
    · have h := hA c_7
      clear hA hB
      refine ar_aload_n (j := 0) (q := 75) rfl rfl rfl rfl ?_
      refine ar_getf (v := .ref 99) (q := 78) rfl rfl mk_106 rfl rfl ?_
      refine ar_iload (q := 80) rfl rfl rfl ?_
      refine ar_iload_n (j := 1) (q := 81) rfl rfl rfl rfl ?_
      refine ar_invv (as := [.int (nI k), .int (nI s)]) (rest := []) (b2 := (0, 0)) (b3 := (0, 0)) (q := 84) rfl rfl rfl rfl mk_99 rfl rfl rfl rfl rfl ?_
      refine am_meth_mono d _ _ _ _ _ (fun v9 m9 h9 => ?_) h
      obtain ⟨z_8, I_9, L_10, rfl, rfl, h⟩ := h9
      show am_Run am_X0 (am_meth d) 70 R 84 [some (.ref 106), some (.int (nI s)), some (.int best), some (.int bh), some (.int (nI k)), none, none] [.int z_8] (am_mk I_9 L_10, 0, 0)
      refine ar_istore (ls' := [some (.ref 106), some (.int (nI s)), some (.int best), some (.int bh), some (.int (nI k)), some (.int z_8), none]) (q := 86) rfl rfl rfl rfl ?_
      refine ar_iload (q := 88) rfl rfl rfl ?_
      refine ar_iload_n (j := 3) (q := 89) rfl rfl rfl rfl ?_
      obtain ⟨hA, hB⟩ := h
      refine ar_br am_c_ne (t := 116) (q := 92) rfl rfl rfl (fun c_11 => ?_) (fun c_11 => ?_)
      · have h := hB c_11
        clear hA hB
        refine ar_iload (q := 118) rfl rfl rfl ?_
        refine ar_iload_n (j := 3) (q := 119) rfl rfl rfl rfl ?_
        obtain ⟨hA, hB⟩ := h
        refine ar_br am_d_ge (t := 126) (q := 122) rfl rfl rfl (fun c_17 => ?_) (fun c_17 => ?_)
        · have h := hB c_17
          clear hA hB
          refine ar_iconst (v := 0) (q := 127) rfl rfl rfl ?_
          refine ar_istore (ls' := [some (.ref 106), some (.int (nI s)), some (.int best), some (.int bh), some (.int (nI k)), some (.int z_8), some (.int 0)]) (q := 129) rfl rfl rfl rfl ?_
          refine ar_iload_n (j := 2) (q := 130) rfl rfl rfl rfl ?_
          refine ar_bipush (v := (-9 : Int32)) (q := 132) rfl rfl rfl ?_
          obtain ⟨hA, hB⟩ := h
          refine ar_br am_c_eq (t := 140) (q := 135) rfl rfl rfl (fun c_19 => ?_) (fun c_19 => ?_)
          · have h := hA c_19
            clear hA hB
            refine ar_iload (q := 142) rfl rfl rfl ?_
            refine ar_istore_n (j := 2) (ls' := [some (.ref 106), some (.int (nI s)), some (.int (nI k)), some (.int bh), some (.int (nI k)), some (.int z_8), some (.int 0)]) (q := 143) rfl rfl rfl rfl rfl ?_
            refine ar_iload (q := 145) rfl rfl rfl ?_
            refine ar_istore_n (j := 3) (ls' := [some (.ref 106), some (.int (nI s)), some (.int (nI k)), some (.int z_8), some (.int (nI k)), some (.int z_8), some (.int 0)]) (q := 146) rfl rfl rfl rfl rfl ?_
            refine ar_iinc (v := nI (k + 1)) (ls' := [some (.ref 106), some (.int (nI s)), some (.int (nI k)), some (.int z_8), some (.int (nI (k + 1))), some (.int z_8), some (.int 0)]) (q := 149) rfl rfl rfl (nI_1 _) rfl rfl ?_
            refine ar_goto (t := 37) rfl rfl ?_
            exact am_Run.weak (ls' := _) (by exact ⟨rfl, ⟨rfl, ⟨rfl, ⟨rfl, ⟨rfl, trivial⟩⟩⟩⟩⟩) h
          · have h := hB c_19
            clear hA hB
            refine ar_iload (q := 137) rfl rfl rfl ?_
            refine ar_b0 am_c_eq (t := 146) (q := 140) rfl rfl rfl (fun _ => ?_) (fun c9 => absurd (by decide) c9)
            refine ar_iinc (v := nI (k + 1)) (ls' := [some (.ref 106), some (.int (nI s)), some (.int best), some (.int bh), some (.int (nI (k + 1))), some (.int z_8), some (.int 0)]) (q := 149) rfl rfl rfl (nI_1 _) rfl rfl ?_
            refine ar_goto (t := 37) rfl rfl ?_
            exact am_Run.weak (ls' := _) (by exact ⟨rfl, ⟨rfl, ⟨rfl, ⟨rfl, ⟨rfl, trivial⟩⟩⟩⟩⟩) h
        · have c_17 := Classical.not_not.mp c_17
          have h := hA c_17
          clear hA hB
          refine ar_iconst (v := 1) (q := 123) rfl rfl rfl ?_
          refine ar_goto (t := 127) rfl rfl ?_
          refine ar_istore (ls' := [some (.ref 106), some (.int (nI s)), some (.int best), some (.int bh), some (.int (nI k)), some (.int z_8), some (.int 1)]) (q := 129) rfl rfl rfl rfl ?_
          refine ar_iload_n (j := 2) (q := 130) rfl rfl rfl rfl ?_
          refine ar_bipush (v := (-9 : Int32)) (q := 132) rfl rfl rfl ?_
          obtain ⟨hA, hB⟩ := h
          refine ar_br am_c_eq (t := 140) (q := 135) rfl rfl rfl (fun c_18 => ?_) (fun c_18 => ?_)
          · have h := hA c_18
            clear hA hB
            refine ar_iload (q := 142) rfl rfl rfl ?_
            refine ar_istore_n (j := 2) (ls' := [some (.ref 106), some (.int (nI s)), some (.int (nI k)), some (.int bh), some (.int (nI k)), some (.int z_8), some (.int 1)]) (q := 143) rfl rfl rfl rfl rfl ?_
            refine ar_iload (q := 145) rfl rfl rfl ?_
            refine ar_istore_n (j := 3) (ls' := [some (.ref 106), some (.int (nI s)), some (.int (nI k)), some (.int z_8), some (.int (nI k)), some (.int z_8), some (.int 1)]) (q := 146) rfl rfl rfl rfl rfl ?_
            refine ar_iinc (v := nI (k + 1)) (ls' := [some (.ref 106), some (.int (nI s)), some (.int (nI k)), some (.int z_8), some (.int (nI (k + 1))), some (.int z_8), some (.int 1)]) (q := 149) rfl rfl rfl (nI_1 _) rfl rfl ?_
            refine ar_goto (t := 37) rfl rfl ?_
            exact am_Run.weak (ls' := _) (by exact ⟨rfl, ⟨rfl, ⟨rfl, ⟨rfl, ⟨rfl, trivial⟩⟩⟩⟩⟩) h
          · have h := hB c_18
            clear hA hB
            refine ar_iload (q := 137) rfl rfl rfl ?_
            refine ar_b0 am_c_eq (t := 146) (q := 140) rfl rfl rfl (fun c9 => absurd c9 (by decide)) (fun _ => ?_)
            refine ar_iload (q := 142) rfl rfl rfl ?_
            refine ar_istore_n (j := 2) (ls' := [some (.ref 106), some (.int (nI s)), some (.int (nI k)), some (.int bh), some (.int (nI k)), some (.int z_8), some (.int 1)]) (q := 143) rfl rfl rfl rfl rfl ?_
            refine ar_iload (q := 145) rfl rfl rfl ?_
            refine ar_istore_n (j := 3) (ls' := [some (.ref 106), some (.int (nI s)), some (.int (nI k)), some (.int z_8), some (.int (nI k)), some (.int z_8), some (.int 1)]) (q := 146) rfl rfl rfl rfl rfl ?_
            refine ar_iinc (v := nI (k + 1)) (ls' := [some (.ref 106), some (.int (nI s)), some (.int (nI k)), some (.int z_8), some (.int (nI (k + 1))), some (.int z_8), some (.int 1)]) (q := 149) rfl rfl rfl (nI_1 _) rfl rfl ?_
            refine ar_goto (t := 37) rfl rfl ?_
            exact am_Run.weak (ls' := _) (by exact ⟨rfl, ⟨rfl, ⟨rfl, ⟨rfl, ⟨rfl, trivial⟩⟩⟩⟩⟩) h
      · have c_11 := Classical.not_not.mp c_11
        have h := hA c_11
        clear hA hB
        refine ar_iload_n (j := 2) (q := 93) rfl rfl rfl rfl ?_
        refine ar_bipush (v := (-9 : Int32)) (q := 95) rfl rfl rfl ?_
        obtain ⟨hA, hB⟩ := h
        refine ar_br am_c_eq (t := 112) (q := 98) rfl rfl rfl (fun c_12 => ?_) (fun c_12 => ?_)
        · have h := hA c_12
          clear hA hB
          refine ar_iconst (v := 0) (q := 113) rfl rfl rfl ?_
          refine ar_goto (t := 127) rfl rfl ?_
          refine ar_istore (ls' := [some (.ref 106), some (.int (nI s)), some (.int best), some (.int bh), some (.int (nI k)), some (.int z_8), some (.int 0)]) (q := 129) rfl rfl rfl rfl ?_
          refine ar_iload_n (j := 2) (q := 130) rfl rfl rfl rfl ?_
          refine ar_bipush (v := (-9 : Int32)) (q := 132) rfl rfl rfl ?_
          refine ar_br am_c_eq (t := 140) (q := 135) rfl rfl rfl (fun _ => ?_) (fun c9 => absurd c_12 c9)
          refine ar_iload (q := 142) rfl rfl rfl ?_
          refine ar_istore_n (j := 2) (ls' := [some (.ref 106), some (.int (nI s)), some (.int (nI k)), some (.int bh), some (.int (nI k)), some (.int z_8), some (.int 0)]) (q := 143) rfl rfl rfl rfl rfl ?_
          refine ar_iload (q := 145) rfl rfl rfl ?_
          refine ar_istore_n (j := 3) (ls' := [some (.ref 106), some (.int (nI s)), some (.int (nI k)), some (.int z_8), some (.int (nI k)), some (.int z_8), some (.int 0)]) (q := 146) rfl rfl rfl rfl rfl ?_
          refine ar_iinc (v := nI (k + 1)) (ls' := [some (.ref 106), some (.int (nI s)), some (.int (nI k)), some (.int z_8), some (.int (nI (k + 1))), some (.int z_8), some (.int 0)]) (q := 149) rfl rfl rfl (nI_1 _) rfl rfl ?_
          refine ar_goto (t := 37) rfl rfl ?_
          exact am_Run.weak (ls' := _) (by exact ⟨rfl, ⟨rfl, ⟨rfl, ⟨rfl, ⟨rfl, trivial⟩⟩⟩⟩⟩) h
        · have h := hB c_12
          clear hA hB
          refine ar_aload_n (j := 0) (q := 99) rfl rfl rfl rfl ?_
          refine ar_iload (q := 101) rfl rfl rfl ?_
          refine ar_iload_n (j := 2) (q := 102) rfl rfl rfl rfl ?_
          refine ar_invv (as := [.int (nI k), .int best]) (rest := []) (b2 := (0, 0)) (b3 := (0, 0)) (q := 105) rfl rfl rfl rfl mk_106 rfl rfl rfl rfl rfl ?_
          refine am_meth_mono d _ _ _ _ _ (fun v9 m9 h9 => ?_) h
          obtain ⟨z_13, I_14, L_15, rfl, rfl, h⟩ := h9
          show am_Run am_X0 (am_meth d) 70 R 105 [some (.ref 106), some (.int (nI s)), some (.int best), some (.int bh), some (.int (nI k)), some (.int z_8), none] [.int z_13] (am_mk I_14 L_15, 0, 0)
          obtain ⟨hA, hB⟩ := h
          refine ar_b0 am_c_eq (t := 112) (q := 108) rfl rfl rfl (fun c_16 => ?_) (fun c_16 => ?_)
          · have h := hA c_16
            clear hA hB
            refine ar_iconst (v := 0) (q := 113) rfl rfl rfl ?_
            refine ar_goto (t := 127) rfl rfl ?_
            refine ar_istore (ls' := [some (.ref 106), some (.int (nI s)), some (.int best), some (.int bh), some (.int (nI k)), some (.int z_8), some (.int 0)]) (q := 129) rfl rfl rfl rfl ?_
            refine ar_iload_n (j := 2) (q := 130) rfl rfl rfl rfl ?_
            refine ar_bipush (v := (-9 : Int32)) (q := 132) rfl rfl rfl ?_
            refine ar_br am_c_eq (t := 140) (q := 135) rfl rfl rfl (fun c9 => absurd c9 c_12) (fun _ => ?_)
            refine ar_iload (q := 137) rfl rfl rfl ?_
            refine ar_b0 am_c_eq (t := 146) (q := 140) rfl rfl rfl (fun _ => ?_) (fun c9 => absurd (by decide) c9)
            refine ar_iinc (v := nI (k + 1)) (ls' := [some (.ref 106), some (.int (nI s)), some (.int best), some (.int bh), some (.int (nI (k + 1))), some (.int z_8), some (.int 0)]) (q := 149) rfl rfl rfl (nI_1 _) rfl rfl ?_
            refine ar_goto (t := 37) rfl rfl ?_
            exact am_Run.weak (ls' := _) (by exact ⟨rfl, ⟨rfl, ⟨rfl, ⟨rfl, ⟨rfl, trivial⟩⟩⟩⟩⟩) h
          · have h := hB c_16
            clear hA hB
            refine ar_iconst (v := 1) (q := 109) rfl rfl rfl ?_
            refine ar_goto (t := 127) rfl rfl ?_
            refine ar_istore (ls' := [some (.ref 106), some (.int (nI s)), some (.int best), some (.int bh), some (.int (nI k)), some (.int z_8), some (.int 1)]) (q := 129) rfl rfl rfl rfl ?_
            refine ar_iload_n (j := 2) (q := 130) rfl rfl rfl rfl ?_
            refine ar_bipush (v := (-9 : Int32)) (q := 132) rfl rfl rfl ?_
            refine ar_br am_c_eq (t := 140) (q := 135) rfl rfl rfl (fun c9 => absurd c9 c_12) (fun _ => ?_)
            refine ar_iload (q := 137) rfl rfl rfl ?_
            refine ar_b0 am_c_eq (t := 146) (q := 140) rfl rfl rfl (fun c9 => absurd c9 (by decide)) (fun _ => ?_)
            refine ar_iload (q := 142) rfl rfl rfl ?_
            refine ar_istore_n (j := 2) (ls' := [some (.ref 106), some (.int (nI s)), some (.int (nI k)), some (.int bh), some (.int (nI k)), some (.int z_8), some (.int 1)]) (q := 143) rfl rfl rfl rfl rfl ?_
            refine ar_iload (q := 145) rfl rfl rfl ?_
            refine ar_istore_n (j := 3) (ls' := [some (.ref 106), some (.int (nI s)), some (.int (nI k)), some (.int z_8), some (.int (nI k)), some (.int z_8), some (.int 1)]) (q := 146) rfl rfl rfl rfl rfl ?_
            refine ar_iinc (v := nI (k + 1)) (ls' := [some (.ref 106), some (.int (nI s)), some (.int (nI k)), some (.int z_8), some (.int (nI (k + 1))), some (.int z_8), some (.int 1)]) (q := 149) rfl rfl rfl (nI_1 _) rfl rfl ?_
            refine ar_goto (t := 37) rfl rfl ?_
            exact am_Run.weak (ls' := _) (by exact ⟨rfl, ⟨rfl, ⟨rfl, ⟨rfl, ⟨rfl, trivial⟩⟩⟩⟩⟩) h
    · have h := hB c_7
      clear hA hB
      refine ar_goto (t := 146) rfl rfl ?_
      refine ar_iinc (v := nI (k + 1)) (ls' := [some (.ref 106), some (.int (nI s)), some (.int best), some (.int bh), some (.int (nI (k + 1))), none, none]) (q := 149) rfl rfl rfl (nI_1 _) rfl rfl ?_
      refine ar_goto (t := 37) rfl rfl ?_
      exact am_Run.weak (ls' := _) (by exact ⟨rfl, ⟨rfl, ⟨rfl, ⟨rfl, ⟨rfl, trivial⟩⟩⟩⟩⟩) h
theorem r_M_whoElse_0 {d : Nat} (hd : 1 ≤ d) {R : am_R} {I : Nat → Nat → Int32} {L : Nat → Nat → Int64} {s : Int32} (h : ((0 ≤ s ∧ s < I 113 14 → (am_Run am_X0 (am_meth d) 228 R 18 [some (.ref 113), some (.int s), some (.int (-1 : Int32)), some (.int 0), none] [] (am_mk I L, 0, 0))) ∧ (¬ (0 ≤ s ∧ s < I 113 14) → (R (some (.int (-1 : Int32))) (am_mk (am_no I 1) L, 0, 0))))) : am_Run am_X0 (am_meth d) 228 R 0 [some (.ref 113), some (.int s), none, none, none] [] (am_mk I L, 0, 0) := by
  refine ar_aload_n (j := 0) (q := 1) rfl rfl rfl rfl ?_
  refine ar_iload_n (j := 1) (q := 2) rfl rfl rfl rfl ?_
  refine ar_invv (as := [.int s]) (rest := []) (b2 := (0, 0)) (b3 := (0, 0)) (q := 5) rfl rfl rfl rfl mk_113 rfl rfl rfl rfl rfl ?_
  obtain ⟨hA, hB⟩ := h
  refine ok_M_isStay (by omega)  (fun c_1 => ?_) (fun c_1 => ?_)
  · have h := hA c_1
    clear hA hB
    show am_Run am_X0 (am_meth d) 228 R 5 [some (.ref 113), some (.int s), none, none, none] [.int 1] (am_mk I L, 0, 0)
    refine ar_b0 am_c_ne (t := 14) (q := 8) rfl rfl rfl (fun _ => ?_) (fun c9 => absurd (by decide) c9)
    refine ar_iconst (v := (-1 : Int32)) (q := 15) rfl rfl rfl ?_
    refine ar_istore_n (j := 2) (ls' := [some (.ref 113), some (.int s), some (.int (-1 : Int32)), none, none]) (q := 16) rfl rfl rfl rfl rfl ?_
    refine ar_iconst (v := 0) (q := 17) rfl rfl rfl ?_
    refine ar_istore_n (j := 3) (ls' := [some (.ref 113), some (.int s), some (.int (-1 : Int32)), some (.int 0), none]) (q := 18) rfl rfl rfl rfl rfl ?_
    exact am_Run.weak (ls' := _) (by exact ⟨rfl, ⟨rfl, ⟨rfl, ⟨rfl, trivial⟩⟩⟩⟩) h
  · have h := hB c_1
    clear hA hB
    show am_Run am_X0 (am_meth d) 228 R 5 [some (.ref 113), some (.int s), none, none, none] [.int 0] (am_mk I L, 0, 0)
    refine ar_b0 am_c_ne (t := 14) (q := 8) rfl rfl rfl (fun c9 => absurd (by decide) c9) (fun _ => ?_)
    refine ar_aload_n (j := 0) (q := 9) rfl rfl rfl rfl ?_
    refine ar_iconst (v := (-1 : Int32)) (q := 10) rfl rfl rfl ?_
    refine ar_invv (as := [.int (-1 : Int32)]) (rest := []) (b2 := (0, 0)) (b3 := (0, 0)) (q := 13) rfl rfl rfl rfl mk_113 rfl rfl rfl rfl rfl ?_
    refine ok_no (j := 1) (by omega) (by decide) (by decide) ?_
    show am_Run am_X0 (am_meth d) 228 R 13 [some (.ref 113), some (.int s), none, none, none] [.int (-1 : Int32)] (am_mk (am_no I 1) L, 0, 0)
    exact ar_iret rfl rfl h
theorem r_M_whoElse_18 {d : Nat} {R : am_R} {I : Nat → Nat → Int32} {L : Nat → Nat → Int64} {s : Int32} {best : Int32} {k : Nat} (h : (((nI k) < (I 113 4) → (am_meth d 165 [.ref 113, .int (nI k), .int s] (am_mk I L, 0, 0) (am_ri (fun z_2 I_3 L_4 => ((z_2 = 0 → (((best < 0 → (am_Run am_X0 (am_meth d) 228 R 18 [some (.ref 113), some (.int s), some (.int (nI k)), some (.int (nI (k + 1))), none] [] (am_mk I_3 L_4, 0, 0))) ∧ (¬ best < 0 → (am_meth d 218 [.ref 113, .int (nI k), .int s] (am_mk I_3 L_4, 0, 0) (am_ri (fun z_7 I_8 L_9 => am_meth d 218 [.ref 113, .int best, .int s] (am_mk I_8 L_9, 0, 0) (am_ri (fun z_10 I_11 L_12 => (((z_7 - z_10) ≤ 0 → ((((z_7 - z_10) = 0 → (am_meth d 223 [.ref 113, .int (nI k), .int best] (am_mk I_11 L_12, 0, 0) (am_ri (fun z_15 I_16 L_17 => ((z_15 = 0 → (am_Run am_X0 (am_meth d) 228 R 18 [some (.ref 113), some (.int s), some (.int best), some (.int (nI (k + 1))), none] [] (am_mk I_16 L_17, 0, 0))) ∧ (¬ z_15 = 0 → (am_Run am_X0 (am_meth d) 228 R 18 [some (.ref 113), some (.int s), some (.int (nI k)), some (.int (nI (k + 1))), none] [] (am_mk I_16 L_17, 0, 0)))))))) ∧ (¬ (z_7 - z_10) = 0 → (am_Run am_X0 (am_meth d) 228 R 18 [some (.ref 113), some (.int s), some (.int (nI k)), some (.int (nI (k + 1))), none] [] (am_mk I_11 L_12, 0, 0)))))) ∧ (¬ (z_7 - z_10) ≤ 0 → (am_Run am_X0 (am_meth d) 228 R 18 [some (.ref 113), some (.int s), some (.int best), some (.int (nI (k + 1))), none] [] (am_mk I_11 L_12, 0, 0))))))))))))) ∧ (¬ z_2 = 0 → (am_Run am_X0 (am_meth d) 228 R 18 [some (.ref 113), some (.int s), some (.int best), some (.int (nI (k + 1))), none] [] (am_mk I_3 L_4, 0, 0)))))))) ∧ (¬ (nI k) < (I 113 4) → (((best < 0 → (R (some (.int (-9 : Int32))) (am_mk I L, 0, 0))) ∧ (¬ best < 0 → (R (some (.int best)) (am_mk I L, 0, 0)))))))) : am_Run am_X0 (am_meth d) 228 R 18 [some (.ref 113), some (.int s), some (.int best), some (.int (nI k)), none] [] (am_mk I L, 0, 0) := by
  refine ar_iload_n (j := 3) (q := 19) rfl rfl rfl rfl ?_
  refine ar_aload_n (j := 0) (q := 20) rfl rfl rfl rfl ?_
  refine ar_getf (v := .int (I 113 4)) (q := 23) rfl rfl mk_113 rfl rfl ?_
  obtain ⟨hA, hB⟩ := h
  refine ar_br am_d_ge (t := 87) (q := 26) rfl rfl rfl (fun c_1 => ?_) (fun c_1 => ?_)
  · have h := hB c_1
    clear hA hB
    refine ar_iload_n (j := 2) (q := 88) rfl rfl rfl rfl ?_
    obtain ⟨hA, hB⟩ := h
    refine ar_b0 am_d_ge (t := 96) (q := 91) rfl rfl rfl (fun c_19 => ?_) (fun c_19 => ?_)
    · have h := hB c_19
      clear hA hB
      refine ar_iload_n (j := 2) (q := 97) rfl rfl rfl rfl ?_
      exact ar_iret rfl rfl h
    · have c_19 := Classical.not_not.mp c_19
      have h := hA c_19
      clear hA hB
      refine ar_bipush (v := (-9 : Int32)) (q := 93) rfl rfl rfl ?_
      refine ar_goto (t := 97) rfl rfl ?_
      exact ar_iret rfl rfl h
  · have c_1 := Classical.not_not.mp c_1
    have h := hA c_1
    clear hA hB
    refine ar_aload_n (j := 0) (q := 27) rfl rfl rfl rfl ?_
    refine ar_iload_n (j := 3) (q := 28) rfl rfl rfl rfl ?_
    refine ar_iload_n (j := 1) (q := 29) rfl rfl rfl rfl ?_
    refine ar_invv (as := [.int (nI k), .int s]) (rest := []) (b2 := (0, 0)) (b3 := (0, 0)) (q := 32) rfl rfl rfl rfl mk_113 rfl rfl rfl rfl rfl ?_
    refine am_meth_mono d _ _ _ _ _ (fun v9 m9 h9 => ?_) h
    obtain ⟨z_2, I_3, L_4, rfl, rfl, h⟩ := h9
    show am_Run am_X0 (am_meth d) 228 R 32 [some (.ref 113), some (.int s), some (.int best), some (.int (nI k)), none] [.int z_2] (am_mk I_3 L_4, 0, 0)
    obtain ⟨hA, hB⟩ := h
    refine ar_b0 am_c_eq (t := 38) (q := 35) rfl rfl rfl (fun c_5 => ?_) (fun c_5 => ?_)
    · have h := hA c_5
      clear hA hB
      refine ar_iload_n (j := 2) (q := 39) rfl rfl rfl rfl ?_
      obtain ⟨hA, hB⟩ := h
      refine ar_b0 am_c_lt (t := 79) (q := 42) rfl rfl rfl (fun c_6 => ?_) (fun c_6 => ?_)
      · have h := hA c_6
        clear hA hB
        refine ar_iload_n (j := 3) (q := 80) rfl rfl rfl rfl ?_
        refine ar_istore_n (j := 2) (ls' := [some (.ref 113), some (.int s), some (.int (nI k)), some (.int (nI k)), none]) (q := 81) rfl rfl rfl rfl rfl ?_
        refine ar_iinc (v := nI (k + 1)) (ls' := [some (.ref 113), some (.int s), some (.int (nI k)), some (.int (nI (k + 1))), none]) (q := 84) rfl rfl rfl (nI_1 _) rfl rfl ?_
        refine ar_goto (t := 18) rfl rfl ?_
        exact am_Run.weak (ls' := _) (by exact ⟨rfl, ⟨rfl, ⟨rfl, ⟨rfl, trivial⟩⟩⟩⟩) h
      · have h := hB c_6
        clear hA hB
        refine ar_aload_n (j := 0) (q := 43) rfl rfl rfl rfl ?_
        refine ar_iload_n (j := 3) (q := 44) rfl rfl rfl rfl ?_
        refine ar_iload_n (j := 1) (q := 45) rfl rfl rfl rfl ?_
        refine ar_invv (as := [.int (nI k), .int s]) (rest := []) (b2 := (0, 0)) (b3 := (0, 0)) (q := 48) rfl rfl rfl rfl mk_113 rfl rfl rfl rfl rfl ?_
        refine am_meth_mono d _ _ _ _ _ (fun v9 m9 h9 => ?_) h
        obtain ⟨z_7, I_8, L_9, rfl, rfl, h⟩ := h9
        show am_Run am_X0 (am_meth d) 228 R 48 [some (.ref 113), some (.int s), some (.int best), some (.int (nI k)), none] [.int z_7] (am_mk I_8 L_9, 0, 0)
        refine ar_aload_n (j := 0) (q := 49) rfl rfl rfl rfl ?_
        refine ar_iload_n (j := 2) (q := 50) rfl rfl rfl rfl ?_
        refine ar_iload_n (j := 1) (q := 51) rfl rfl rfl rfl ?_
        refine ar_invv (as := [.int best, .int s]) (rest := [.int z_7]) (b2 := (0, 0)) (b3 := (0, 0)) (q := 54) rfl rfl rfl rfl mk_113 rfl rfl rfl rfl rfl ?_
        refine am_meth_mono d _ _ _ _ _ (fun v9 m9 h9 => ?_) h
        obtain ⟨z_10, I_11, L_12, rfl, rfl, h⟩ := h9
        show am_Run am_X0 (am_meth d) 228 R 54 [some (.ref 113), some (.int s), some (.int best), some (.int (nI k)), none] [.int z_10, .int z_7] (am_mk I_11 L_12, 0, 0)
        refine ar_ib (i := .isub) (z := z_7 - z_10) (q := 55) rfl rfl rfl rfl rfl ?_
        refine ar_istore (ls' := [some (.ref 113), some (.int s), some (.int best), some (.int (nI k)), some (.int (z_7 - z_10))]) (q := 57) rfl rfl rfl rfl ?_
        refine ar_iload (q := 59) rfl rfl rfl ?_
        obtain ⟨hA, hB⟩ := h
        refine ar_b0 am_d_gt (t := 81) (q := 62) rfl rfl rfl (fun c_13 => ?_) (fun c_13 => ?_)
        · have h := hB c_13
          clear hA hB
          refine ar_iinc (v := nI (k + 1)) (ls' := [some (.ref 113), some (.int s), some (.int best), some (.int (nI (k + 1))), some (.int (z_7 - z_10))]) (q := 84) rfl rfl rfl (nI_1 _) rfl rfl ?_
          refine ar_goto (t := 18) rfl rfl ?_
          exact am_Run.weak (ls' := _) (by exact ⟨rfl, ⟨rfl, ⟨rfl, ⟨rfl, trivial⟩⟩⟩⟩) h
        · have c_13 := Classical.not_not.mp c_13
          have h := hA c_13
          clear hA hB
          refine ar_iload (q := 64) rfl rfl rfl ?_
          obtain ⟨hA, hB⟩ := h
          refine ar_b0 am_c_ne (t := 79) (q := 67) rfl rfl rfl (fun c_14 => ?_) (fun c_14 => ?_)
          · have h := hB c_14
            clear hA hB
            refine ar_iload_n (j := 3) (q := 80) rfl rfl rfl rfl ?_
            refine ar_istore_n (j := 2) (ls' := [some (.ref 113), some (.int s), some (.int (nI k)), some (.int (nI k)), some (.int (z_7 - z_10))]) (q := 81) rfl rfl rfl rfl rfl ?_
            refine ar_iinc (v := nI (k + 1)) (ls' := [some (.ref 113), some (.int s), some (.int (nI k)), some (.int (nI (k + 1))), some (.int (z_7 - z_10))]) (q := 84) rfl rfl rfl (nI_1 _) rfl rfl ?_
            refine ar_goto (t := 18) rfl rfl ?_
            exact am_Run.weak (ls' := _) (by exact ⟨rfl, ⟨rfl, ⟨rfl, ⟨rfl, trivial⟩⟩⟩⟩) h
          · have c_14 := Classical.not_not.mp c_14
            have h := hA c_14
            clear hA hB
            refine ar_aload_n (j := 0) (q := 68) rfl rfl rfl rfl ?_
            refine ar_iload_n (j := 3) (q := 69) rfl rfl rfl rfl ?_
            refine ar_iload_n (j := 2) (q := 70) rfl rfl rfl rfl ?_
            refine ar_invv (as := [.int (nI k), .int best]) (rest := []) (b2 := (0, 0)) (b3 := (0, 0)) (q := 73) rfl rfl rfl rfl mk_113 rfl rfl rfl rfl rfl ?_
            refine am_meth_mono d _ _ _ _ _ (fun v9 m9 h9 => ?_) h
            obtain ⟨z_15, I_16, L_17, rfl, rfl, h⟩ := h9
            show am_Run am_X0 (am_meth d) 228 R 73 [some (.ref 113), some (.int s), some (.int best), some (.int (nI k)), some (.int (z_7 - z_10))] [.int z_15] (am_mk I_16 L_17, 0, 0)
            obtain ⟨hA, hB⟩ := h
            refine ar_b0 am_c_ne (t := 79) (q := 76) rfl rfl rfl (fun c_18 => ?_) (fun c_18 => ?_)
            · have h := hB c_18
              clear hA hB
              refine ar_iload_n (j := 3) (q := 80) rfl rfl rfl rfl ?_
              refine ar_istore_n (j := 2) (ls' := [some (.ref 113), some (.int s), some (.int (nI k)), some (.int (nI k)), some (.int (z_7 - z_10))]) (q := 81) rfl rfl rfl rfl rfl ?_
              refine ar_iinc (v := nI (k + 1)) (ls' := [some (.ref 113), some (.int s), some (.int (nI k)), some (.int (nI (k + 1))), some (.int (z_7 - z_10))]) (q := 84) rfl rfl rfl (nI_1 _) rfl rfl ?_
              refine ar_goto (t := 18) rfl rfl ?_
              exact am_Run.weak (ls' := _) (by exact ⟨rfl, ⟨rfl, ⟨rfl, ⟨rfl, trivial⟩⟩⟩⟩) h
            · have c_18 := Classical.not_not.mp c_18
              have h := hA c_18
              clear hA hB
              refine ar_goto (t := 81) rfl rfl ?_
              refine ar_iinc (v := nI (k + 1)) (ls' := [some (.ref 113), some (.int s), some (.int best), some (.int (nI (k + 1))), some (.int (z_7 - z_10))]) (q := 84) rfl rfl rfl (nI_1 _) rfl rfl ?_
              refine ar_goto (t := 18) rfl rfl ?_
              exact am_Run.weak (ls' := _) (by exact ⟨rfl, ⟨rfl, ⟨rfl, ⟨rfl, trivial⟩⟩⟩⟩) h
    · have h := hB c_5
      clear hA hB
      refine ar_goto (t := 81) rfl rfl ?_
      refine ar_iinc (v := nI (k + 1)) (ls' := [some (.ref 113), some (.int s), some (.int best), some (.int (nI (k + 1))), none]) (q := 84) rfl rfl rfl (nI_1 _) rfl rfl ?_
      refine ar_goto (t := 18) rfl rfl ?_
      exact am_Run.weak (ls' := _) (by exact ⟨rfl, ⟨rfl, ⟨rfl, ⟨rfl, trivial⟩⟩⟩⟩) h
