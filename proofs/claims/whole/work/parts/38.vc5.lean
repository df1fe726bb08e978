theorem r_Reviews_know_0 {d : Nat} {R : am_R} {I : Nat → Nat → Int32} {L : Nat → Nat → Int64} {k : Int32} (h : ((k = (I 74 8) → (R none (am_mk I L, 0, 0))) ∧ (¬ k = (I 74 8) → (∀ I_2 : Nat → Nat → Int32, I_2 = va_up I 74 (upd (I 74) 8 k) → (am_meth d 77 [.ref 74, .int k] (am_mk I_2 L, 0, 0) (am_rv (fun I_4 L_5 => am_meth d 79 [.ref 74, .int k] (am_mk I_4 L_5, 0, 0) (am_rv (fun I_6 L_7 => R none (am_mk I_6 L_7, 0, 0)))))))))) : am_Run am_X0 (am_meth d) 76 R 0 [some (.ref 74), some (.int k)] [] (am_mk I L, 0, 0) := by
  refine ar_iload_n (j := 1) (q := 1) rfl rfl rfl rfl ?_
  refine ar_aload_n (j := 0) (q := 2) rfl rfl rfl rfl ?_
  refine ar_getf (v := .int (I 74 8)) (q := 5) rfl rfl mk_74 rfl rfl ?_
  obtain ⟨hA, hB⟩ := h
  refine ar_br am_c_ne (t := 9) (q := 8) rfl rfl rfl (fun c_1 => ?_) (fun c_1 => ?_)
  · have h := hB c_1
    clear hA hB
    refine ar_aload_n (j := 0) (q := 10) rfl rfl rfl rfl ?_
    refine ar_iload_n (j := 1) (q := 11) rfl rfl rfl rfl ?_
    obtain ⟨I_2, hI_3⟩ : ∃ z : Nat → Nat → Int32, z = va_up I 74 (upd (I 74) 8 k) := ⟨_, rfl⟩
    have h := h I_2 hI_3
    refine ar_putf (hp2 := am_mk I_2 L) (q := 14) rfl rfl mk_74 rfl (by rw [hI_3]; exact mk_p74_8) rfl ?_
    refine ar_aload_n (j := 0) (q := 15) rfl rfl rfl rfl ?_
    refine ar_iload_n (j := 1) (q := 16) rfl rfl rfl rfl ?_
    refine ar_invv (as := [.int k]) (rest := []) (b2 := (0, 0)) (b3 := (0, 0)) (q := 19) rfl rfl rfl rfl mk_74 rfl rfl rfl rfl rfl ?_
    refine am_meth_mono d _ _ _ _ _ (fun v9 m9 h9 => ?_) h
    obtain ⟨I_4, L_5, rfl, rfl, h⟩ := h9
    show am_Run am_X0 (am_meth d) 76 R 19 [some (.ref 74), some (.int k)] [] (am_mk I_4 L_5, 0, 0)
    refine ar_aload_n (j := 0) (q := 20) rfl rfl rfl rfl ?_
    refine ar_iload_n (j := 1) (q := 21) rfl rfl rfl rfl ?_
    refine ar_invv (as := [.int k]) (rest := []) (b2 := (0, 0)) (b3 := (0, 0)) (q := 24) rfl rfl rfl rfl mk_74 rfl rfl rfl rfl rfl ?_
    refine am_meth_mono d _ _ _ _ _ (fun v9 m9 h9 => ?_) h
    obtain ⟨I_6, L_7, rfl, rfl, h⟩ := h9
    show am_Run am_X0 (am_meth d) 76 R 24 [some (.ref 74), some (.int k)] [] (am_mk I_6 L_7, 0, 0)
    exact ar_vret rfl rfl h
  · have c_1 := Classical.not_not.mp c_1
    have h := hA c_1
    clear hA hB
    exact ar_vret rfl rfl h
theorem r_Reviews_knowHands_0 {d : Nat} {R : am_R} {I : Nat → Nat → Int32} {L : Nat → Nat → Int64} {k : Int32} (h : am_meth d 242 [.ref 84, .int 0] (am_mk I L, 0, 0) (am_rv (fun I_1 L_2 => am_meth d 242 [.ref 75, .int 0] (am_mk I_1 L_2, 0, 0) (am_rv (fun I_3 L_4 => am_Run am_X0 (am_meth d) 77 R 18 [some (.ref 74), some (.int k), some (.int 0)] [] (am_mk I_3 L_4, 0, 0)))))) : am_Run am_X0 (am_meth d) 77 R 0 [some (.ref 74), some (.int k), none] [] (am_mk I L, 0, 0) := by
  refine ar_aload_n (j := 0) (q := 1) rfl rfl rfl rfl ?_
  refine ar_getf (v := .ref 84) (q := 4) rfl rfl mk_74 rfl rfl ?_
  refine ar_iconst (v := 0) (q := 5) rfl rfl rfl ?_
  refine ar_invs (as := [.ref 84, .int 0]) (rest := []) (b2 := (0, 0)) (b3 := (0, 0)) (q := 8) rfl rfl rfl rfl rfl rfl rfl rfl rfl ?_
  refine am_meth_mono d _ _ _ _ _ (fun v9 m9 h9 => ?_) h
  obtain ⟨I_1, L_2, rfl, rfl, h⟩ := h9
  show am_Run am_X0 (am_meth d) 77 R 8 [some (.ref 74), some (.int k), none] [] (am_mk I_1 L_2, 0, 0)
  refine ar_aload_n (j := 0) (q := 9) rfl rfl rfl rfl ?_
  refine ar_getf (v := .ref 75) (q := 12) rfl rfl mk_74 rfl rfl ?_
  refine ar_iconst (v := 0) (q := 13) rfl rfl rfl ?_
  refine ar_invs (as := [.ref 75, .int 0]) (rest := []) (b2 := (0, 0)) (b3 := (0, 0)) (q := 16) rfl rfl rfl rfl rfl rfl rfl rfl rfl ?_
  refine am_meth_mono d _ _ _ _ _ (fun v9 m9 h9 => ?_) h
  obtain ⟨I_3, L_4, rfl, rfl, h⟩ := h9
  show am_Run am_X0 (am_meth d) 77 R 16 [some (.ref 74), some (.int k), none] [] (am_mk I_3 L_4, 0, 0)
  refine ar_iconst (v := 0) (q := 17) rfl rfl rfl ?_
  refine ar_istore_n (j := 2) (ls' := [some (.ref 74), some (.int k), some (.int 0)]) (q := 18) rfl rfl rfl rfl rfl ?_
  exact am_Run.weak (ls' := _) (by exact ⟨rfl, ⟨rfl, ⟨rfl, trivial⟩⟩⟩) h
theorem r_Reviews_knowHands_18 {d : Nat} (hd : 1 ≤ d) {R : am_R} {I : Nat → Nat → Int32} {L : Nat → Nat → Int64} {k : Int32} {s : Nat} (h : (((nI s) < (I 66 1) → ((s < 60) ∧ (((am_cg I 82 83 s k → (s < 60 ∧ (∃ j_5 : Nat, j_5 < 20 ∧ I 67 s = nI j_5 ∧ (∀ I_8 : Nat → Nat → Int32, I_8 = va_up I 75 (upd (I 75) j_5 ((I 75 j_5) + (100 * (I 79 s)))) → (∃ j_10 : Nat, j_10 < 20 ∧ I_8 67 s = nI j_10 ∧ (∀ I_13 : Nat → Nat → Int32, I_13 = va_up I_8 84 (upd (I_8 84) j_10 ((I_8 84 j_10) + 1)) → (am_Run am_X0 (am_meth d) 77 R 18 [some (.ref 74), some (.int k), some (.int (nI (s + 1)))] [] (am_mk I_13 L, 0, 0)))))))) ∧ (¬ (am_cg I 82 83 s k) → (am_Run am_X0 (am_meth d) 77 R 18 [some (.ref 74), some (.int k), some (.int (nI (s + 1)))] [] (am_mk I L, 0, 0))))))) ∧ (¬ (nI s) < (I 66 1) → (am_Run am_X0 (am_meth d) 77 R 93 [some (.ref 74), none, some (.int 0)] [] (am_mk I L, 0, 0))))) : am_Run am_X0 (am_meth d) 77 R 18 [some (.ref 74), some (.int k), some (.int (nI s))] [] (am_mk I L, 0, 0) := by
  refine ar_iload_n (j := 2) (q := 19) rfl rfl rfl rfl ?_
  refine ar_aload_n (j := 0) (q := 20) rfl rfl rfl rfl ?_
  refine ar_getf (v := .ref 66) (q := 23) rfl rfl mk_74 rfl rfl ?_
  refine ar_getf (v := .int (I 66 1)) (q := 26) rfl rfl mk_66 rfl rfl ?_
  obtain ⟨hA, hB⟩ := h
  refine ar_br am_d_ge (t := 91) (q := 29) rfl rfl rfl (fun c_1 => ?_) (fun c_1 => ?_)
  · have h := hB c_1
    clear hA hB
    refine ar_iconst (v := 0) (q := 92) rfl rfl rfl ?_
    refine ar_istore_n (j := 2) (ls' := [some (.ref 74), some (.int k), some (.int 0)]) (q := 93) rfl rfl rfl rfl rfl ?_
    exact am_Run.weak (ls' := _) (by exact ⟨rfl, ⟨rfl, trivial⟩⟩) h
  · have c_1 := Classical.not_not.mp c_1
    have h := hA c_1
    clear hA hB
    refine ar_aload_n (j := 0) (q := 30) rfl rfl rfl rfl ?_
    refine ar_iconst (v := 0) (q := 31) rfl rfl rfl ?_
    refine ar_iload_n (j := 2) (q := 32) rfl rfl rfl rfl ?_
    refine ar_iload_n (j := 1) (q := 33) rfl rfl rfl rfl ?_
    refine ar_invv (as := [.int 0, .int (nI s), .int k]) (rest := []) (b2 := (0, 0)) (b3 := (0, 0)) (q := 36) rfl rfl rfl rfl mk_74 rfl rfl rfl rfl rfl ?_
    obtain ⟨hp_3, h⟩ := h
    obtain ⟨hA, hB⟩ := h
    refine ok_Re_isCounting0 (by omega) rfl hp_3 (fun c_2 => ?_) (fun c_2 => ?_)
    · have h := hA c_2
      clear hA hB
      show am_Run am_X0 (am_meth d) 77 R 36 [some (.ref 74), some (.int k), some (.int (nI s))] [.int 1] (am_mk I L, 0, 0)
      refine ar_b0 am_c_eq (t := 85) (q := 39) rfl rfl rfl (fun c9 => absurd c9 (by decide)) (fun _ => ?_)
      refine ar_aload_n (j := 0) (q := 40) rfl rfl rfl rfl ?_
      refine ar_getf (v := .ref 75) (q := 43) rfl rfl mk_74 rfl rfl ?_
      refine ar_aload_n (j := 0) (q := 44) rfl rfl rfl rfl ?_
      refine ar_getf (v := .ref 66) (q := 47) rfl rfl mk_74 rfl rfl ?_
      refine ar_getf (v := .ref 67) (q := 50) rfl rfl mk_66 rfl rfl ?_
      refine ar_iload_n (j := 2) (q := 51) rfl rfl rfl rfl ?_
      obtain ⟨hx_4, h⟩ := h
      refine ar_iald (v := I 67 s) (q := 52) rfl mk_67 (am_inE rfl hx_4 (by decide)) (am_clE rfl hx_4 (by decide)) rfl ?_
      refine ar_st (i := .dup2) (n := 1) (st' := [.int (I 67 s), .ref 75, .int (I 67 s), .ref 75]) (q := 53) rfl rfl rfl rfl ?_
      obtain ⟨j_5, hx_6, hi_7, h⟩ := h
      refine ar_iald (v := I 75 j_5) (q := 54) rfl mk_75 (am_inE hi_7 hx_6 (by decide)) (am_clE hi_7 hx_6 (by decide)) rfl ?_
      refine ar_bipush (v := 100) (q := 56) rfl rfl rfl ?_
      refine ar_aload_n (j := 0) (q := 57) rfl rfl rfl rfl ?_
      refine ar_getf (v := .ref 78) (q := 60) rfl rfl mk_74 rfl rfl ?_
      refine ar_iconst (v := 0) (q := 61) rfl rfl rfl ?_
      refine ar_aald (c2 := 79) (q := 62) rfl mk_78 (am_inE rfl (by decide) (by decide)) (congrArg (fun z => some (79 + z)) (am_clT (n := 2) rfl (by decide) (by decide))) rfl ?_
      refine ar_iload_n (j := 2) (q := 63) rfl rfl rfl rfl ?_
      refine ar_iald (v := I 79 s) (q := 64) rfl mk_79 (am_inE rfl hx_4 (by decide)) (am_clE rfl hx_4 (by decide)) rfl ?_
      refine ar_ib (i := .imul) (z := 100 * (I 79 s)) (q := 65) rfl rfl rfl rfl rfl ?_
      refine ar_ib (i := .iadd) (z := (I 75 j_5) + (100 * (I 79 s))) (q := 66) rfl rfl rfl rfl rfl ?_
      obtain ⟨I_8, hI_9⟩ : ∃ z : Nat → Nat → Int32, z = va_up I 75 (upd (I 75) j_5 ((I 75 j_5) + (100 * (I 79 s)))) := ⟨_, rfl⟩
      have h := h I_8 hI_9
      refine ar_iast (hp2 := am_mk I_8 L) (q := 67) rfl mk_75 (am_inE hi_7 hx_6 (by decide)) (by rw [am_clT hi_7 hx_6 (by decide), hI_9]; exact mk_s75) rfl ?_
      refine ar_aload_n (j := 0) (q := 68) rfl rfl rfl rfl ?_
      refine ar_getf (v := .ref 84) (q := 71) rfl rfl mk_74 rfl rfl ?_
      refine ar_aload_n (j := 0) (q := 72) rfl rfl rfl rfl ?_
      refine ar_getf (v := .ref 66) (q := 75) rfl rfl mk_74 rfl rfl ?_
      refine ar_getf (v := .ref 67) (q := 78) rfl rfl mk_66 rfl rfl ?_
      refine ar_iload_n (j := 2) (q := 79) rfl rfl rfl rfl ?_
      refine ar_iald (v := I_8 67 s) (q := 80) rfl mk_67 (am_inE rfl hx_4 (by decide)) (am_clE rfl hx_4 (by decide)) rfl ?_
      refine ar_st (i := .dup2) (n := 1) (st' := [.int (I_8 67 s), .ref 84, .int (I_8 67 s), .ref 84]) (q := 81) rfl rfl rfl rfl ?_
      obtain ⟨j_10, hx_11, hi_12, h⟩ := h
      refine ar_iald (v := I_8 84 j_10) (q := 82) rfl mk_84 (am_inE hi_12 hx_11 (by decide)) (am_clE hi_12 hx_11 (by decide)) rfl ?_
      refine ar_iconst (v := 1) (q := 83) rfl rfl rfl ?_
      refine ar_ib (i := .iadd) (z := (I_8 84 j_10) + 1) (q := 84) rfl rfl rfl rfl rfl ?_
      obtain ⟨I_13, hI_14⟩ : ∃ z : Nat → Nat → Int32, z = va_up I_8 84 (upd (I_8 84) j_10 ((I_8 84 j_10) + 1)) := ⟨_, rfl⟩
      have h := h I_13 hI_14
      refine ar_iast (hp2 := am_mk I_13 L) (q := 85) rfl mk_84 (am_inE hi_12 hx_11 (by decide)) (by rw [am_clT hi_12 hx_11 (by decide), hI_14]; exact mk_s84) rfl ?_
      refine ar_iinc (v := nI (s + 1)) (ls' := [some (.ref 74), some (.int k), some (.int (nI (s + 1)))]) (q := 88) rfl rfl rfl (nI_1 _) rfl rfl ?_
      refine ar_goto (t := 18) rfl rfl ?_
      exact am_Run.weak (ls' := _) (by exact ⟨rfl, ⟨rfl, ⟨rfl, trivial⟩⟩⟩) h
    · have h := hB c_2
      clear hA hB
      show am_Run am_X0 (am_meth d) 77 R 36 [some (.ref 74), some (.int k), some (.int (nI s))] [.int 0] (am_mk I L, 0, 0)
      refine ar_b0 am_c_eq (t := 85) (q := 39) rfl rfl rfl (fun _ => ?_) (fun c9 => absurd (by decide) c9)
      refine ar_iinc (v := nI (s + 1)) (ls' := [some (.ref 74), some (.int k), some (.int (nI (s + 1)))]) (q := 88) rfl rfl rfl (nI_1 _) rfl rfl ?_
      refine ar_goto (t := 18) rfl rfl ?_
      exact am_Run.weak (ls' := _) (by exact ⟨rfl, ⟨rfl, ⟨rfl, trivial⟩⟩⟩) h
theorem r_Reviews_knowHands_93 {d : Nat} {R : am_R} {I : Nat → Nat → Int32} {L : Nat → Nat → Int64} {j : Nat} (h : (((nI j) < 20 → (j < 20 ∧ ((((I 84 j) = 0 → (∀ I_4 : Nat → Nat → Int32, I_4 = va_up I 75 (upd (I 75) j 300) → (am_Run am_X0 (am_meth d) 77 R 93 [some (.ref 74), none, some (.int (nI (j + 1)))] [] (am_mk I_4 L, 0, 0)))) ∧ (¬ (I 84 j) = 0 → (¬ I 84 j = 0 ∧ (∀ I_7 : Nat → Nat → Int32, I_7 = va_up I 75 (upd (I 75) j ((I 75 j) / (I 84 j))) → (am_Run am_X0 (am_meth d) 77 R 93 [some (.ref 74), none, some (.int (nI (j + 1)))] [] (am_mk I_7 L, 0, 0))))))))) ∧ (¬ (nI j) < 20 → (R none (am_mk I L, 0, 0))))) : am_Run am_X0 (am_meth d) 77 R 93 [some (.ref 74), none, some (.int (nI j))] [] (am_mk I L, 0, 0) := by
  refine ar_iload_n (j := 2) (q := 94) rfl rfl rfl rfl ?_
  refine ar_bipush (v := 20) (q := 96) rfl rfl rfl ?_
  obtain ⟨hA, hB⟩ := h
  refine ar_br am_d_ge (t := 139) (q := 99) rfl rfl rfl (fun c_1 => ?_) (fun c_1 => ?_)
  · have h := hB c_1
    clear hA hB
    exact ar_vret rfl rfl h
  · have c_1 := Classical.not_not.mp c_1
    have h := hA c_1
    clear hA hB
    refine ar_aload_n (j := 0) (q := 100) rfl rfl rfl rfl ?_
    refine ar_getf (v := .ref 75) (q := 103) rfl rfl mk_74 rfl rfl ?_
    refine ar_iload_n (j := 2) (q := 104) rfl rfl rfl rfl ?_
    refine ar_aload_n (j := 0) (q := 105) rfl rfl rfl rfl ?_
    refine ar_getf (v := .ref 84) (q := 108) rfl rfl mk_74 rfl rfl ?_
    refine ar_iload_n (j := 2) (q := 109) rfl rfl rfl rfl ?_
    obtain ⟨hx_2, h⟩ := h
    refine ar_iald (v := I 84 j) (q := 110) rfl mk_84 (am_inE rfl hx_2 (by decide)) (am_clE rfl hx_2 (by decide)) rfl ?_
    obtain ⟨hA, hB⟩ := h
    refine ar_b0 am_c_ne (t := 119) (q := 113) rfl rfl rfl (fun c_3 => ?_) (fun c_3 => ?_)
    · have h := hB c_3
      clear hA hB
      refine ar_aload_n (j := 0) (q := 120) rfl rfl rfl rfl ?_
      refine ar_getf (v := .ref 75) (q := 123) rfl rfl mk_74 rfl rfl ?_
      refine ar_iload_n (j := 2) (q := 124) rfl rfl rfl rfl ?_
      refine ar_iald (v := I 75 j) (q := 125) rfl mk_75 (am_inE rfl hx_2 (by decide)) (am_clE rfl hx_2 (by decide)) rfl ?_
      refine ar_aload_n (j := 0) (q := 126) rfl rfl rfl rfl ?_
      refine ar_getf (v := .ref 84) (q := 129) rfl rfl mk_74 rfl rfl ?_
      refine ar_iload_n (j := 2) (q := 130) rfl rfl rfl rfl ?_
      refine ar_iald (v := I 84 j) (q := 131) rfl mk_84 (am_inE rfl hx_2 (by decide)) (am_clE rfl hx_2 (by decide)) rfl ?_
      obtain ⟨hz_6, h⟩ := h
      refine ar_idiv (q := 132) rfl hz_6 rfl ?_
      obtain ⟨I_7, hI_8⟩ : ∃ z : Nat → Nat → Int32, z = va_up I 75 (upd (I 75) j ((I 75 j) / (I 84 j))) := ⟨_, rfl⟩
      have h := h I_7 hI_8
      refine ar_iast (hp2 := am_mk I_7 L) (q := 133) rfl mk_75 (am_inE rfl hx_2 (by decide)) (by rw [am_clT rfl hx_2 (by decide), hI_8]; exact mk_s75) rfl ?_
      refine ar_iinc (v := nI (j + 1)) (ls' := [some (.ref 74), none, some (.int (nI (j + 1)))]) (q := 136) rfl rfl rfl (nI_1 _) rfl rfl ?_
      refine ar_goto (t := 93) rfl rfl ?_
      exact am_Run.weak (ls' := _) (by exact ⟨rfl, ⟨rfl, trivial⟩⟩) h
    · have c_3 := Classical.not_not.mp c_3
      have h := hA c_3
      clear hA hB
      refine ar_sipush (v := 300) (q := 116) rfl rfl rfl ?_
      refine ar_goto (t := 132) rfl rfl ?_
      obtain ⟨I_4, hI_5⟩ : ∃ z : Nat → Nat → Int32, z = va_up I 75 (upd (I 75) j 300) := ⟨_, rfl⟩
      have h := h I_4 hI_5
      refine ar_iast (hp2 := am_mk I_4 L) (q := 133) rfl mk_75 (am_inE rfl hx_2 (by decide)) (by rw [am_clT rfl hx_2 (by decide), hI_5]; exact mk_s75) rfl ?_
      refine ar_iinc (v := nI (j + 1)) (ls' := [some (.ref 74), none, some (.int (nI (j + 1)))]) (q := 136) rfl rfl rfl (nI_1 _) rfl rfl ?_
      refine ar_goto (t := 93) rfl rfl ?_
      exact am_Run.weak (ls' := _) (by exact ⟨rfl, ⟨rfl, trivial⟩⟩) h
theorem r_Reviews_knowTrust_0 {d : Nat} {R : am_R} {I : Nat → Nat → Int32} {L : Nat → Nat → Int64} {k : Int32} (h : am_meth d 242 [.ref 77, .int 0] (am_mk I L, 0, 0) (am_rv (fun I_1 L_2 => am_meth d 242 [.ref 76, .int 0] (am_mk I_1 L_2, 0, 0) (am_rv (fun I_3 L_4 => am_Run am_X0 (am_meth d) 79 R 18 [some (.ref 74), some (.int k), some (.int 0), none] [] (am_mk I_3 L_4, 0, 0)))))) : am_Run am_X0 (am_meth d) 79 R 0 [some (.ref 74), some (.int k), none, none] [] (am_mk I L, 0, 0) := by
  refine ar_aload_n (j := 0) (q := 1) rfl rfl rfl rfl ?_
  refine ar_getf (v := .ref 77) (q := 4) rfl rfl mk_74 rfl rfl ?_
  refine ar_iconst (v := 0) (q := 5) rfl rfl rfl ?_
  refine ar_invs (as := [.ref 77, .int 0]) (rest := []) (b2 := (0, 0)) (b3 := (0, 0)) (q := 8) rfl rfl rfl rfl rfl rfl rfl rfl rfl ?_
  refine am_meth_mono d _ _ _ _ _ (fun v9 m9 h9 => ?_) h
  obtain ⟨I_1, L_2, rfl, rfl, h⟩ := h9
  show am_Run am_X0 (am_meth d) 79 R 8 [some (.ref 74), some (.int k), none, none] [] (am_mk I_1 L_2, 0, 0)
  refine ar_aload_n (j := 0) (q := 9) rfl rfl rfl rfl ?_
  refine ar_getf (v := .ref 76) (q := 12) rfl rfl mk_74 rfl rfl ?_
  refine ar_iconst (v := 0) (q := 13) rfl rfl rfl ?_
  refine ar_invs (as := [.ref 76, .int 0]) (rest := []) (b2 := (0, 0)) (b3 := (0, 0)) (q := 16) rfl rfl rfl rfl rfl rfl rfl rfl rfl ?_
  refine am_meth_mono d _ _ _ _ _ (fun v9 m9 h9 => ?_) h
  obtain ⟨I_3, L_4, rfl, rfl, h⟩ := h9
  show am_Run am_X0 (am_meth d) 79 R 16 [some (.ref 74), some (.int k), none, none] [] (am_mk I_3 L_4, 0, 0)
  refine ar_iconst (v := 0) (q := 17) rfl rfl rfl ?_
  refine ar_istore_n (j := 2) (ls' := [some (.ref 74), some (.int k), some (.int 0), none]) (q := 18) rfl rfl rfl rfl rfl ?_
  exact am_Run.weak (ls' := _) (by exact ⟨rfl, ⟨rfl, ⟨rfl, trivial⟩⟩⟩) h
theorem r_Reviews_knowTrust_18 {d : Nat} (hd : 1 ≤ d) {R : am_R} {I : Nat → Nat → Int32} {L : Nat → Nat → Int64} {k : Int32} {s : Nat} (h : (((nI s) < (I 66 1) → (s < 60 ∧ ((((I 71 s) < 0 → (am_Run am_X0 (am_meth d) 79 R 18 [some (.ref 74), some (.int k), some (.int (nI (s + 1))), none] [] (am_mk I L, 0, 0))) ∧ (¬ (I 71 s) < 0 → ((s < 60) ∧ (((am_cg I 82 83 s k → (∃ j_6 : Nat, j_6 < 20 ∧ I 71 s = nI j_6 ∧ (∃ j_9 : Nat, j_9 < 20 ∧ I 67 s = nI j_9 ∧ (∀ I_12 : Nat → Nat → Int32, I_12 = va_up I 76 (upd (I 76) j_6 ((I 76 j_6) + ((100 * (I 79 s)) - (I 75 j_9)))) → (∀ I_14 : Nat → Nat → Int32, I_14 = va_up I_12 77 (upd (I_12 77) j_6 ((I_12 77 j_6) + 1)) → (am_Run am_X0 (am_meth d) 79 R 18 [some (.ref 74), some (.int k), some (.int (nI (s + 1))), none] [] (am_mk I_14 L, 0, 0))))))) ∧ (¬ (am_cg I 82 83 s k) → (am_Run am_X0 (am_meth d) 79 R 18 [some (.ref 74), some (.int k), some (.int (nI (s + 1))), none] [] (am_mk I L, 0, 0))))))))))) ∧ (¬ (nI s) < (I 66 1) → (am_Run am_X0 (am_meth d) 79 R 106 [some (.ref 74), none, some (.int 0), none] [] (am_mk I L, 0, 0))))) : am_Run am_X0 (am_meth d) 79 R 18 [some (.ref 74), some (.int k), some (.int (nI s)), none] [] (am_mk I L, 0, 0) := by
  refine ar_iload_n (j := 2) (q := 19) rfl rfl rfl rfl ?_
  refine ar_aload_n (j := 0) (q := 20) rfl rfl rfl rfl ?_
  refine ar_getf (v := .ref 66) (q := 23) rfl rfl mk_74 rfl rfl ?_
  refine ar_getf (v := .int (I 66 1)) (q := 26) rfl rfl mk_66 rfl rfl ?_
  obtain ⟨hA, hB⟩ := h
  refine ar_br am_d_ge (t := 104) (q := 29) rfl rfl rfl (fun c_1 => ?_) (fun c_1 => ?_)
  · have h := hB c_1
    clear hA hB
    refine ar_iconst (v := 0) (q := 105) rfl rfl rfl ?_
    refine ar_istore_n (j := 2) (ls' := [some (.ref 74), some (.int k), some (.int 0), none]) (q := 106) rfl rfl rfl rfl rfl ?_
    exact am_Run.weak (ls' := _) (by exact ⟨rfl, ⟨rfl, trivial⟩⟩) h
  · have c_1 := Classical.not_not.mp c_1
    have h := hA c_1
    clear hA hB
    refine ar_aload_n (j := 0) (q := 30) rfl rfl rfl rfl ?_
    refine ar_getf (v := .ref 66) (q := 33) rfl rfl mk_74 rfl rfl ?_
    refine ar_getf (v := .ref 71) (q := 36) rfl rfl mk_66 rfl rfl ?_
    refine ar_iload_n (j := 2) (q := 37) rfl rfl rfl rfl ?_
    obtain ⟨hx_2, h⟩ := h
    refine ar_iald (v := I 71 s) (q := 38) rfl mk_71 (am_inE rfl hx_2 (by decide)) (am_clE rfl hx_2 (by decide)) rfl ?_
    refine ar_istore_n (j := 3) (ls' := [some (.ref 74), some (.int k), some (.int (nI s)), some (.int (I 71 s))]) (q := 39) rfl rfl rfl rfl rfl ?_
    refine ar_iload_n (j := 3) (q := 40) rfl rfl rfl rfl ?_
    obtain ⟨hA, hB⟩ := h
    refine ar_b0 am_c_lt (t := 98) (q := 43) rfl rfl rfl (fun c_3 => ?_) (fun c_3 => ?_)
    · have h := hA c_3
      clear hA hB
      refine ar_iinc (v := nI (s + 1)) (ls' := [some (.ref 74), some (.int k), some (.int (nI (s + 1))), some (.int (I 71 s))]) (q := 101) rfl rfl rfl (nI_1 _) rfl rfl ?_
      refine ar_goto (t := 18) rfl rfl ?_
      exact am_Run.weak (ls' := _) (by exact ⟨rfl, ⟨rfl, ⟨rfl, trivial⟩⟩⟩) h
    · have h := hB c_3
      clear hA hB
      refine ar_aload_n (j := 0) (q := 44) rfl rfl rfl rfl ?_
      refine ar_iconst (v := 0) (q := 45) rfl rfl rfl ?_
      refine ar_iload_n (j := 2) (q := 46) rfl rfl rfl rfl ?_
      refine ar_iload_n (j := 1) (q := 47) rfl rfl rfl rfl ?_
      refine ar_invv (as := [.int 0, .int (nI s), .int k]) (rest := []) (b2 := (0, 0)) (b3 := (0, 0)) (q := 50) rfl rfl rfl rfl mk_74 rfl rfl rfl rfl rfl ?_
      obtain ⟨hp_5, h⟩ := h
      obtain ⟨hA, hB⟩ := h
      refine ok_Re_isCounting0 (by omega) rfl hp_5 (fun c_4 => ?_) (fun c_4 => ?_)
      · have h := hA c_4
        clear hA hB
        show am_Run am_X0 (am_meth d) 79 R 50 [some (.ref 74), some (.int k), some (.int (nI s)), some (.int (I 71 s))] [.int 1] (am_mk I L, 0, 0)
        refine ar_b0 am_c_eq (t := 98) (q := 53) rfl rfl rfl (fun c9 => absurd c9 (by decide)) (fun _ => ?_)
        refine ar_aload_n (j := 0) (q := 54) rfl rfl rfl rfl ?_
        refine ar_getf (v := .ref 76) (q := 57) rfl rfl mk_74 rfl rfl ?_
        refine ar_iload_n (j := 3) (q := 58) rfl rfl rfl rfl ?_
        refine ar_st (i := .dup2) (n := 1) (st' := [.int (I 71 s), .ref 76, .int (I 71 s), .ref 76]) (q := 59) rfl rfl rfl rfl ?_
        obtain ⟨j_6, hx_7, hi_8, h⟩ := h
        refine ar_iald (v := I 76 j_6) (q := 60) rfl mk_76 (am_inE hi_8 hx_7 (by decide)) (am_clE hi_8 hx_7 (by decide)) rfl ?_
        refine ar_bipush (v := 100) (q := 62) rfl rfl rfl ?_
        refine ar_aload_n (j := 0) (q := 63) rfl rfl rfl rfl ?_
        refine ar_getf (v := .ref 78) (q := 66) rfl rfl mk_74 rfl rfl ?_
        refine ar_iconst (v := 0) (q := 67) rfl rfl rfl ?_
        refine ar_aald (c2 := 79) (q := 68) rfl mk_78 (am_inE rfl (by decide) (by decide)) (congrArg (fun z => some (79 + z)) (am_clT (n := 2) rfl (by decide) (by decide))) rfl ?_
        refine ar_iload_n (j := 2) (q := 69) rfl rfl rfl rfl ?_
        refine ar_iald (v := I 79 s) (q := 70) rfl mk_79 (am_inE rfl hx_2 (by decide)) (am_clE rfl hx_2 (by decide)) rfl ?_
        refine ar_ib (i := .imul) (z := 100 * (I 79 s)) (q := 71) rfl rfl rfl rfl rfl ?_
        refine ar_aload_n (j := 0) (q := 72) rfl rfl rfl rfl ?_
        refine ar_getf (v := .ref 75) (q := 75) rfl rfl mk_74 rfl rfl ?_
        refine ar_aload_n (j := 0) (q := 76) rfl rfl rfl rfl ?_
        refine ar_getf (v := .ref 66) (q := 79) rfl rfl mk_74 rfl rfl ?_
        refine ar_getf (v := .ref 67) (q := 82) rfl rfl mk_66 rfl rfl ?_
        refine ar_iload_n (j := 2) (q := 83) rfl rfl rfl rfl ?_
        refine ar_iald (v := I 67 s) (q := 84) rfl mk_67 (am_inE rfl hx_2 (by decide)) (am_clE rfl hx_2 (by decide)) rfl ?_
        obtain ⟨j_9, hx_10, hi_11, h⟩ := h
        refine ar_iald (v := I 75 j_9) (q := 85) rfl mk_75 (am_inE hi_11 hx_10 (by decide)) (am_clE hi_11 hx_10 (by decide)) rfl ?_
        refine ar_ib (i := .isub) (z := (100 * (I 79 s)) - (I 75 j_9)) (q := 86) rfl rfl rfl rfl rfl ?_
        refine ar_ib (i := .iadd) (z := (I 76 j_6) + ((100 * (I 79 s)) - (I 75 j_9))) (q := 87) rfl rfl rfl rfl rfl ?_
        obtain ⟨I_12, hI_13⟩ : ∃ z : Nat → Nat → Int32, z = va_up I 76 (upd (I 76) j_6 ((I 76 j_6) + ((100 * (I 79 s)) - (I 75 j_9)))) := ⟨_, rfl⟩
        have h := h I_12 hI_13
        refine ar_iast (hp2 := am_mk I_12 L) (q := 88) rfl mk_76 (am_inE hi_8 hx_7 (by decide)) (by rw [am_clT hi_8 hx_7 (by decide), hI_13]; exact mk_s76) rfl ?_
        refine ar_aload_n (j := 0) (q := 89) rfl rfl rfl rfl ?_
        refine ar_getf (v := .ref 77) (q := 92) rfl rfl mk_74 rfl rfl ?_
        refine ar_iload_n (j := 3) (q := 93) rfl rfl rfl rfl ?_
        refine ar_st (i := .dup2) (n := 1) (st' := [.int (I 71 s), .ref 77, .int (I 71 s), .ref 77]) (q := 94) rfl rfl rfl rfl ?_
        refine ar_iald (v := I_12 77 j_6) (q := 95) rfl mk_77 (am_inE hi_8 hx_7 (by decide)) (am_clE hi_8 hx_7 (by decide)) rfl ?_
        refine ar_iconst (v := 1) (q := 96) rfl rfl rfl ?_
        refine ar_ib (i := .iadd) (z := (I_12 77 j_6) + 1) (q := 97) rfl rfl rfl rfl rfl ?_
        obtain ⟨I_14, hI_15⟩ : ∃ z : Nat → Nat → Int32, z = va_up I_12 77 (upd (I_12 77) j_6 ((I_12 77 j_6) + 1)) := ⟨_, rfl⟩
        have h := h I_14 hI_15
        refine ar_iast (hp2 := am_mk I_14 L) (q := 98) rfl mk_77 (am_inE hi_8 hx_7 (by decide)) (by rw [am_clT hi_8 hx_7 (by decide), hI_15]; exact mk_s77) rfl ?_
        refine ar_iinc (v := nI (s + 1)) (ls' := [some (.ref 74), some (.int k), some (.int (nI (s + 1))), some (.int (I 71 s))]) (q := 101) rfl rfl rfl (nI_1 _) rfl rfl ?_
        refine ar_goto (t := 18) rfl rfl ?_
        exact am_Run.weak (ls' := _) (by exact ⟨rfl, ⟨rfl, ⟨rfl, trivial⟩⟩⟩) h
      · have h := hB c_4
        clear hA hB
        show am_Run am_X0 (am_meth d) 79 R 50 [some (.ref 74), some (.int k), some (.int (nI s)), some (.int (I 71 s))] [.int 0] (am_mk I L, 0, 0)
        refine ar_b0 am_c_eq (t := 98) (q := 53) rfl rfl rfl (fun _ => ?_) (fun c9 => absurd (by decide) c9)
        refine ar_iinc (v := nI (s + 1)) (ls' := [some (.ref 74), some (.int k), some (.int (nI (s + 1))), some (.int (I 71 s))]) (q := 101) rfl rfl rfl (nI_1 _) rfl rfl ?_
        refine ar_goto (t := 18) rfl rfl ?_
        exact am_Run.weak (ls' := _) (by exact ⟨rfl, ⟨rfl, ⟨rfl, trivial⟩⟩⟩) h
theorem r_Reviews_knowTrust_106 {d : Nat} {R : am_R} {I : Nat → Nat → Int32} {L : Nat → Nat → Int64} {j : Nat} (h : (((nI j) < 20 → (j < 20 ∧ (¬ (I 77 j) + 1 = 0 ∧ (∀ I_4 : Nat → Nat → Int32, I_4 = va_up I 76 (upd (I 76) j ((I 76 j) / ((I 77 j) + 1))) → (am_Run am_X0 (am_meth d) 79 R 106 [some (.ref 74), none, some (.int (nI (j + 1))), none] [] (am_mk I_4 L, 0, 0)))))) ∧ (¬ (nI j) < 20 → (R none (am_mk I L, 0, 0))))) : am_Run am_X0 (am_meth d) 79 R 106 [some (.ref 74), none, some (.int (nI j)), none] [] (am_mk I L, 0, 0) := by
  refine ar_iload_n (j := 2) (q := 107) rfl rfl rfl rfl ?_
  refine ar_bipush (v := 20) (q := 109) rfl rfl rfl ?_
  obtain ⟨hA, hB⟩ := h
  refine ar_br am_d_ge (t := 135) (q := 112) rfl rfl rfl (fun c_1 => ?_) (fun c_1 => ?_)
  · have h := hB c_1
    clear hA hB
    exact ar_vret rfl rfl h
  · have c_1 := Classical.not_not.mp c_1
    have h := hA c_1
    clear hA hB
    refine ar_aload_n (j := 0) (q := 113) rfl rfl rfl rfl ?_
    refine ar_getf (v := .ref 76) (q := 116) rfl rfl mk_74 rfl rfl ?_
    refine ar_iload_n (j := 2) (q := 117) rfl rfl rfl rfl ?_
    refine ar_st (i := .dup2) (n := 1) (st' := [.int (nI j), .ref 76, .int (nI j), .ref 76]) (q := 118) rfl rfl rfl rfl ?_
    obtain ⟨hx_2, h⟩ := h
    refine ar_iald (v := I 76 j) (q := 119) rfl mk_76 (am_inE rfl hx_2 (by decide)) (am_clE rfl hx_2 (by decide)) rfl ?_
    refine ar_aload_n (j := 0) (q := 120) rfl rfl rfl rfl ?_
    refine ar_getf (v := .ref 77) (q := 123) rfl rfl mk_74 rfl rfl ?_
    refine ar_iload_n (j := 2) (q := 124) rfl rfl rfl rfl ?_
    refine ar_iald (v := I 77 j) (q := 125) rfl mk_77 (am_inE rfl hx_2 (by decide)) (am_clE rfl hx_2 (by decide)) rfl ?_
    refine ar_iconst (v := 1) (q := 126) rfl rfl rfl ?_
    refine ar_ib (i := .iadd) (z := (I 77 j) + 1) (q := 127) rfl rfl rfl rfl rfl ?_
    obtain ⟨hz_3, h⟩ := h
    refine ar_idiv (q := 128) rfl hz_3 rfl ?_
    obtain ⟨I_4, hI_5⟩ : ∃ z : Nat → Nat → Int32, z = va_up I 76 (upd (I 76) j ((I 76 j) / ((I 77 j) + 1))) := ⟨_, rfl⟩
    have h := h I_4 hI_5
    refine ar_iast (hp2 := am_mk I_4 L) (q := 129) rfl mk_76 (am_inE rfl hx_2 (by decide)) (by rw [am_clT rfl hx_2 (by decide), hI_5]; exact mk_s76) rfl ?_
    refine ar_iinc (v := nI (j + 1)) (ls' := [some (.ref 74), none, some (.int (nI (j + 1))), none]) (q := 132) rfl rfl rfl (nI_1 _) rfl rfl ?_
    refine ar_goto (t := 106) rfl rfl ?_
    exact am_Run.weak (ls' := _) (by exact ⟨rfl, ⟨rfl, trivial⟩⟩) h
