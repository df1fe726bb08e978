theorem r_Reviews_isCounting0_0 {d : Nat} {R : am_R} {I : Nat → Nat → Int32} {L : Nat → Nat → Int64} {s : Nat} {k : Int32} (h : s < 60 ∧ ((((I 82 s) ≤ k → (∃ j_3 : Nat, j_3 < 2 ∧ 1 - 0 = nI j_3 ∧ ((((I (82 + j_3) s) ≤ k → (R (some (.int 1)) (am_mk I L, 0, 0))) ∧ (¬ (I (82 + j_3) s) ≤ k → (((k ≤ ((I 69 s) + 14) → (R (some (.int 0)) (am_mk I L, 0, 0))) ∧ (¬ k ≤ ((I 69 s) + 14) → (R (some (.int 1)) (am_mk I L, 0, 0)))))))))) ∧ (¬ (I 82 s) ≤ k → (R (some (.int 0)) (am_mk I L, 0, 0)))))) : am_Run am_X0 (am_meth d) 78 R 0 [some (.ref 74), some (.int 0), some (.int (nI s)), some (.int k)] [] (am_mk I L, 0, 0) := by
  refine ar_aload_n (j := 0) (q := 1) rfl rfl rfl rfl ?_
  refine ar_getf (v := .ref 81) (q := 4) rfl rfl mk_74 rfl rfl ?_
  refine ar_iload_n (j := 1) (q := 5) rfl rfl rfl rfl ?_
  refine ar_aald (c2 := 82) (q := 6) rfl mk_81 (am_inE rfl (by decide) (by decide)) (congrArg (fun z => some (82 + z)) (am_clT (n := 2) rfl (by decide) (by decide))) rfl ?_
  refine ar_iload_n (j := 2) (q := 7) rfl rfl rfl rfl ?_
  obtain ⟨hx_1, h⟩ := h
  refine ar_iald (v := I 82 s) (q := 8) rfl mk_82 (am_inE rfl hx_1 (by decide)) (am_clE rfl hx_1 (by decide)) rfl ?_
  refine ar_iload_n (j := 3) (q := 9) rfl rfl rfl rfl ?_
  obtain ⟨hA, hB⟩ := h
  refine ar_br am_c_le (t := 14) (q := 12) rfl rfl rfl (fun c_2 => ?_) (fun c_2 => ?_)
  · have h := hA c_2
    clear hA hB
    refine ar_aload_n (j := 0) (q := 15) rfl rfl rfl rfl ?_
    refine ar_getf (v := .ref 81) (q := 18) rfl rfl mk_74 rfl rfl ?_
    refine ar_iconst (v := 1) (q := 19) rfl rfl rfl ?_
    refine ar_iload_n (j := 1) (q := 20) rfl rfl rfl rfl ?_
    refine ar_ib (i := .isub) (z := 1 - 0) (q := 21) rfl rfl rfl rfl rfl ?_
    obtain ⟨j_3, hx_4, hi_5, h⟩ := h
    refine ar_aald (c2 := 82 + j_3) (q := 22) rfl mk_81 (am_inE hi_5 hx_4 (by decide)) (congrArg (fun z => some (82 + z)) (am_clT (n := 2) hi_5 hx_4 (by decide))) rfl ?_
    refine ar_iload_n (j := 2) (q := 23) rfl rfl rfl rfl ?_
    refine ar_iald (v := I (82 + j_3) s) (q := 24) rfl (mk_g81 hx_4) (am_inE rfl hx_1 (by decide)) (am_clE rfl hx_1 (by decide)) rfl ?_
    refine ar_iload_n (j := 3) (q := 25) rfl rfl rfl rfl ?_
    obtain ⟨hA, hB⟩ := h
    refine ar_br am_c_le (t := 44) (q := 28) rfl rfl rfl (fun c_6 => ?_) (fun c_6 => ?_)
    · have h := hA c_6
      clear hA hB
      refine ar_iconst (v := 1) (q := 45) rfl rfl rfl ?_
      refine ar_goto (t := 49) rfl rfl ?_
      exact ar_zret rfl rfl (Or.inr rfl) h
    · have h := hB c_6
      clear hA hB
      refine ar_iload_n (j := 3) (q := 29) rfl rfl rfl rfl ?_
      refine ar_aload_n (j := 0) (q := 30) rfl rfl rfl rfl ?_
      refine ar_getf (v := .ref 66) (q := 33) rfl rfl mk_74 rfl rfl ?_
      refine ar_getf (v := .ref 69) (q := 36) rfl rfl mk_66 rfl rfl ?_
      refine ar_iload_n (j := 2) (q := 37) rfl rfl rfl rfl ?_
      refine ar_iald (v := I 69 s) (q := 38) rfl mk_69 (am_inE rfl hx_1 (by decide)) (am_clE rfl hx_1 (by decide)) rfl ?_
      refine ar_bipush (v := 14) (q := 40) rfl rfl rfl ?_
      refine ar_ib (i := .iadd) (z := (I 69 s) + 14) (q := 41) rfl rfl rfl rfl rfl ?_
      obtain ⟨hA, hB⟩ := h
      refine ar_br am_c_le (t := 48) (q := 44) rfl rfl rfl (fun c_7 => ?_) (fun c_7 => ?_)
      · have h := hA c_7
        clear hA hB
        refine ar_iconst (v := 0) (q := 49) rfl rfl rfl ?_
        exact ar_zret rfl rfl (Or.inl rfl) h
      · have h := hB c_7
        clear hA hB
        refine ar_iconst (v := 1) (q := 45) rfl rfl rfl ?_
        refine ar_goto (t := 49) rfl rfl ?_
        exact ar_zret rfl rfl (Or.inr rfl) h
  · have h := hB c_2
    clear hA hB
    refine ar_iconst (v := 0) (q := 13) rfl rfl rfl ?_
    exact ar_zret rfl rfl (Or.inl rfl) h
theorem r_Reviews_mayBeTold0_0 {d : Nat} (hd : 1 ≤ d) {R : am_R} {I : Nat → Nat → Int32} {L : Nat → Nat → Int64} {s : Nat} (h : (s < 60) ∧ (((I 69 s < I 66 0 → (s < 60 ∧ ((((I 66 0) ≤ ((I 69 s) + 30) → ((((I 70 s) = 1 → ((((I 82 s) = 1501 → (R (some (.int 1)) (am_mk I L, 0, 0))) ∧ (¬ (I 82 s) = 1501 → (R (some (.int 0)) (am_mk I L, 0, 0)))))) ∧ (¬ (I 70 s) = 1 → (R (some (.int 0)) (am_mk I L, 0, 0)))))) ∧ (¬ (I 66 0) ≤ ((I 69 s) + 30) → ((((I 70 s) = 1 → (R (some (.int 0)) (am_mk I L, 0, 0))) ∧ (¬ (I 70 s) = 1 → (R (some (.int 0)) (am_mk I L, 0, 0)))))))))) ∧ (¬ (I 69 s < I 66 0) → (s < 60 ∧ ((((I 70 s) = 1 → (R (some (.int 0)) (am_mk I L, 0, 0))) ∧ (¬ (I 70 s) = 1 → (R (some (.int 0)) (am_mk I L, 0, 0)))))))))) : am_Run am_X0 (am_meth d) 80 R 0 [some (.ref 74), some (.int 0), some (.int (nI s)), none] [] (am_mk I L, 0, 0) := by
  refine ar_aload_n (j := 0) (q := 1) rfl rfl rfl rfl ?_
  refine ar_getf (v := .ref 66) (q := 4) rfl rfl mk_74 rfl rfl ?_
  refine ar_iload_n (j := 2) (q := 5) rfl rfl rfl rfl ?_
  refine ar_invv (as := [.int (nI s)]) (rest := []) (b2 := (0, 0)) (b3 := (0, 0)) (q := 8) rfl rfl rfl rfl mk_66 rfl rfl rfl rfl rfl ?_
  obtain ⟨hp_2, h⟩ := h
  obtain ⟨hA, hB⟩ := h
  refine ok_St_isOver (by omega) rfl hp_2 (fun c_1 => ?_) (fun c_1 => ?_)
  · have h := hA c_1
    clear hA hB
    show am_Run am_X0 (am_meth d) 80 R 8 [some (.ref 74), some (.int 0), some (.int (nI s)), none] [.int 1] (am_mk I L, 0, 0)
    refine ar_b0 am_c_eq (t := 37) (q := 11) rfl rfl rfl (fun c9 => absurd c9 (by decide)) (fun _ => ?_)
    refine ar_aload_n (j := 0) (q := 12) rfl rfl rfl rfl ?_
    refine ar_getf (v := .ref 66) (q := 15) rfl rfl mk_74 rfl rfl ?_
    refine ar_getf (v := .int (I 66 0)) (q := 18) rfl rfl mk_66 rfl rfl ?_
    refine ar_aload_n (j := 0) (q := 19) rfl rfl rfl rfl ?_
    refine ar_getf (v := .ref 66) (q := 22) rfl rfl mk_74 rfl rfl ?_
    refine ar_getf (v := .ref 69) (q := 25) rfl rfl mk_66 rfl rfl ?_
    refine ar_iload_n (j := 2) (q := 26) rfl rfl rfl rfl ?_
    obtain ⟨hx_3, h⟩ := h
    refine ar_iald (v := I 69 s) (q := 27) rfl mk_69 (am_inE rfl hx_3 (by decide)) (am_clE rfl hx_3 (by decide)) rfl ?_
    refine ar_bipush (v := 30) (q := 29) rfl rfl rfl ?_
    refine ar_ib (i := .iadd) (z := (I 69 s) + 30) (q := 30) rfl rfl rfl rfl rfl ?_
    obtain ⟨hA, hB⟩ := h
    refine ar_br am_d_gt (t := 37) (q := 33) rfl rfl rfl (fun c_4 => ?_) (fun c_4 => ?_)
    · have h := hB c_4
      clear hA hB
      refine ar_iconst (v := 0) (q := 38) rfl rfl rfl ?_
      refine ar_istore_n (j := 3) (ls' := [some (.ref 74), some (.int 0), some (.int (nI s)), some (.int 0)]) (q := 39) rfl rfl rfl rfl rfl ?_
      refine ar_aload_n (j := 0) (q := 40) rfl rfl rfl rfl ?_
      refine ar_getf (v := .ref 66) (q := 43) rfl rfl mk_74 rfl rfl ?_
      refine ar_getf (v := .ref 70) (q := 46) rfl rfl mk_66 rfl rfl ?_
      refine ar_iload_n (j := 2) (q := 47) rfl rfl rfl rfl ?_
      refine ar_iald (v := I 70 s) (q := 48) rfl mk_70 (am_inE rfl hx_3 (by decide)) (am_clE rfl hx_3 (by decide)) rfl ?_
      refine ar_iconst (v := 1) (q := 49) rfl rfl rfl ?_
      obtain ⟨hA, hB⟩ := h
      refine ar_br am_c_ne (t := 74) (q := 52) rfl rfl rfl (fun c_7 => ?_) (fun c_7 => ?_)
      · have h := hB c_7
        clear hA hB
        refine ar_iconst (v := 0) (q := 75) rfl rfl rfl ?_
        exact ar_zret rfl rfl (Or.inl rfl) h
      · have c_7 := Classical.not_not.mp c_7
        have h := hA c_7
        clear hA hB
        refine ar_iload_n (j := 3) (q := 53) rfl rfl rfl rfl ?_
        refine ar_b0 am_c_eq (t := 74) (q := 56) rfl rfl rfl (fun _ => ?_) (fun c9 => absurd (by decide) c9)
        refine ar_iconst (v := 0) (q := 75) rfl rfl rfl ?_
        exact ar_zret rfl rfl (Or.inl rfl) h
    · have c_4 := Classical.not_not.mp c_4
      have h := hA c_4
      clear hA hB
      refine ar_iconst (v := 1) (q := 34) rfl rfl rfl ?_
      refine ar_goto (t := 38) rfl rfl ?_
      refine ar_istore_n (j := 3) (ls' := [some (.ref 74), some (.int 0), some (.int (nI s)), some (.int 1)]) (q := 39) rfl rfl rfl rfl rfl ?_
      refine ar_aload_n (j := 0) (q := 40) rfl rfl rfl rfl ?_
      refine ar_getf (v := .ref 66) (q := 43) rfl rfl mk_74 rfl rfl ?_
      refine ar_getf (v := .ref 70) (q := 46) rfl rfl mk_66 rfl rfl ?_
      refine ar_iload_n (j := 2) (q := 47) rfl rfl rfl rfl ?_
      refine ar_iald (v := I 70 s) (q := 48) rfl mk_70 (am_inE rfl hx_3 (by decide)) (am_clE rfl hx_3 (by decide)) rfl ?_
      refine ar_iconst (v := 1) (q := 49) rfl rfl rfl ?_
      obtain ⟨hA, hB⟩ := h
      refine ar_br am_c_ne (t := 74) (q := 52) rfl rfl rfl (fun c_5 => ?_) (fun c_5 => ?_)
      · have h := hB c_5
        clear hA hB
        refine ar_iconst (v := 0) (q := 75) rfl rfl rfl ?_
        exact ar_zret rfl rfl (Or.inl rfl) h
      · have c_5 := Classical.not_not.mp c_5
        have h := hA c_5
        clear hA hB
        refine ar_iload_n (j := 3) (q := 53) rfl rfl rfl rfl ?_
        refine ar_b0 am_c_eq (t := 74) (q := 56) rfl rfl rfl (fun c9 => absurd c9 (by decide)) (fun _ => ?_)
        refine ar_aload_n (j := 0) (q := 57) rfl rfl rfl rfl ?_
        refine ar_getf (v := .ref 81) (q := 60) rfl rfl mk_74 rfl rfl ?_
        refine ar_iload_n (j := 1) (q := 61) rfl rfl rfl rfl ?_
        refine ar_aald (c2 := 82) (q := 62) rfl mk_81 (am_inE rfl (by decide) (by decide)) (congrArg (fun z => some (82 + z)) (am_clT (n := 2) rfl (by decide) (by decide))) rfl ?_
        refine ar_iload_n (j := 2) (q := 63) rfl rfl rfl rfl ?_
        refine ar_iald (v := I 82 s) (q := 64) rfl mk_82 (am_inE rfl hx_3 (by decide)) (am_clE rfl hx_3 (by decide)) rfl ?_
        refine ar_sipush (v := 1501) (q := 67) rfl rfl rfl ?_
        obtain ⟨hA, hB⟩ := h
        refine ar_br am_c_ne (t := 74) (q := 70) rfl rfl rfl (fun c_6 => ?_) (fun c_6 => ?_)
        · have h := hB c_6
          clear hA hB
          refine ar_iconst (v := 0) (q := 75) rfl rfl rfl ?_
          exact ar_zret rfl rfl (Or.inl rfl) h
        · have c_6 := Classical.not_not.mp c_6
          have h := hA c_6
          clear hA hB
          refine ar_iconst (v := 1) (q := 71) rfl rfl rfl ?_
          refine ar_goto (t := 75) rfl rfl ?_
          exact ar_zret rfl rfl (Or.inr rfl) h
  · have h := hB c_1
    clear hA hB
    show am_Run am_X0 (am_meth d) 80 R 8 [some (.ref 74), some (.int 0), some (.int (nI s)), none] [.int 0] (am_mk I L, 0, 0)
    refine ar_b0 am_c_eq (t := 37) (q := 11) rfl rfl rfl (fun _ => ?_) (fun c9 => absurd (by decide) c9)
    refine ar_iconst (v := 0) (q := 38) rfl rfl rfl ?_
    refine ar_istore_n (j := 3) (ls' := [some (.ref 74), some (.int 0), some (.int (nI s)), some (.int 0)]) (q := 39) rfl rfl rfl rfl rfl ?_
    refine ar_aload_n (j := 0) (q := 40) rfl rfl rfl rfl ?_
    refine ar_getf (v := .ref 66) (q := 43) rfl rfl mk_74 rfl rfl ?_
    refine ar_getf (v := .ref 70) (q := 46) rfl rfl mk_66 rfl rfl ?_
    refine ar_iload_n (j := 2) (q := 47) rfl rfl rfl rfl ?_
    obtain ⟨hx_8, h⟩ := h
    refine ar_iald (v := I 70 s) (q := 48) rfl mk_70 (am_inE rfl hx_8 (by decide)) (am_clE rfl hx_8 (by decide)) rfl ?_
    refine ar_iconst (v := 1) (q := 49) rfl rfl rfl ?_
    obtain ⟨hA, hB⟩ := h
    refine ar_br am_c_ne (t := 74) (q := 52) rfl rfl rfl (fun c_9 => ?_) (fun c_9 => ?_)
    · have h := hB c_9
      clear hA hB
      refine ar_iconst (v := 0) (q := 75) rfl rfl rfl ?_
      exact ar_zret rfl rfl (Or.inl rfl) h
    · have c_9 := Classical.not_not.mp c_9
      have h := hA c_9
      clear hA hB
      refine ar_iload_n (j := 3) (q := 53) rfl rfl rfl rfl ?_
      refine ar_b0 am_c_eq (t := 74) (q := 56) rfl rfl rfl (fun _ => ?_) (fun c9 => absurd (by decide) c9)
      refine ar_iconst (v := 0) (q := 75) rfl rfl rfl ?_
      exact ar_zret rfl rfl (Or.inl rfl) h
theorem r_Reviews_add0_0 {d : Nat} {R : am_R} {I : Nat → Nat → Int32} {L : Nat → Nat → Int64} {s : Nat} {x : Int32} (h : s < 60 ∧ (∀ I_2 : Nat → Nat → Int32, I_2 = va_up I 79 (upd (I 79) s x) → (∀ I_4 : Nat → Nat → Int32, I_4 = va_up I_2 82 (upd (I_2 82) s (I_2 66 0)) → (∀ I_6 : Nat → Nat → Int32, I_6 = va_up I_4 74 (upd (I_4 74) 0 ((I_4 74 0) + 1)) → (∀ I_8 : Nat → Nat → Int32, I_8 = va_up I_6 74 (upd (I_6 74) 8 1501) → (R none (am_mk I_8 L, 0, 0))))))) : am_Run am_X0 (am_meth d) 81 R 0 [some (.ref 74), some (.int 0), some (.int (nI s)), some (.int x)] [] (am_mk I L, 0, 0) := by
  refine ar_aload_n (j := 0) (q := 1) rfl rfl rfl rfl ?_
  refine ar_getf (v := .ref 78) (q := 4) rfl rfl mk_74 rfl rfl ?_
  refine ar_iload_n (j := 1) (q := 5) rfl rfl rfl rfl ?_
  refine ar_aald (c2 := 79) (q := 6) rfl mk_78 (am_inE rfl (by decide) (by decide)) (congrArg (fun z => some (79 + z)) (am_clT (n := 2) rfl (by decide) (by decide))) rfl ?_
  refine ar_iload_n (j := 2) (q := 7) rfl rfl rfl rfl ?_
  refine ar_iload_n (j := 3) (q := 8) rfl rfl rfl rfl ?_
  obtain ⟨hx_1, h⟩ := h
  obtain ⟨I_2, hI_3⟩ : ∃ z : Nat → Nat → Int32, z = va_up I 79 (upd (I 79) s x) := ⟨_, rfl⟩
  have h := h I_2 hI_3
  refine ar_iast (hp2 := am_mk I_2 L) (q := 9) rfl mk_79 (am_inE rfl hx_1 (by decide)) (by rw [am_clT rfl hx_1 (by decide), hI_3]; exact mk_s79) rfl ?_
  refine ar_aload_n (j := 0) (q := 10) rfl rfl rfl rfl ?_
  refine ar_getf (v := .ref 81) (q := 13) rfl rfl mk_74 rfl rfl ?_
  refine ar_iload_n (j := 1) (q := 14) rfl rfl rfl rfl ?_
  refine ar_aald (c2 := 82) (q := 15) rfl mk_81 (am_inE rfl (by decide) (by decide)) (congrArg (fun z => some (82 + z)) (am_clT (n := 2) rfl (by decide) (by decide))) rfl ?_
  refine ar_iload_n (j := 2) (q := 16) rfl rfl rfl rfl ?_
  refine ar_aload_n (j := 0) (q := 17) rfl rfl rfl rfl ?_
  refine ar_getf (v := .ref 66) (q := 20) rfl rfl mk_74 rfl rfl ?_
  refine ar_getf (v := .int (I_2 66 0)) (q := 23) rfl rfl mk_66 rfl rfl ?_
  obtain ⟨I_4, hI_5⟩ : ∃ z : Nat → Nat → Int32, z = va_up I_2 82 (upd (I_2 82) s (I_2 66 0)) := ⟨_, rfl⟩
  have h := h I_4 hI_5
  refine ar_iast (hp2 := am_mk I_4 L) (q := 24) rfl mk_82 (am_inE rfl hx_1 (by decide)) (by rw [am_clT rfl hx_1 (by decide), hI_5]; exact mk_s82) rfl ?_
  refine ar_aload_n (j := 0) (q := 25) rfl rfl rfl rfl ?_
  refine ar_st (i := .dup) (n := 1) (st' := [.ref 74, .ref 74]) (q := 26) rfl rfl rfl rfl ?_
  refine ar_getf (v := .int (I_4 74 0)) (q := 29) rfl rfl mk_74 rfl rfl ?_
  refine ar_iconst (v := 1) (q := 30) rfl rfl rfl ?_
  refine ar_ib (i := .iadd) (z := (I_4 74 0) + 1) (q := 31) rfl rfl rfl rfl rfl ?_
  obtain ⟨I_6, hI_7⟩ : ∃ z : Nat → Nat → Int32, z = va_up I_4 74 (upd (I_4 74) 0 ((I_4 74 0) + 1)) := ⟨_, rfl⟩
  have h := h I_6 hI_7
  refine ar_putf (hp2 := am_mk I_6 L) (q := 34) rfl rfl mk_74 rfl (by rw [hI_7]; exact mk_p74_0) rfl ?_
  refine ar_aload_n (j := 0) (q := 35) rfl rfl rfl rfl ?_
  refine ar_sipush (v := 1501) (q := 38) rfl rfl rfl ?_
  obtain ⟨I_8, hI_9⟩ : ∃ z : Nat → Nat → Int32, z = va_up I_6 74 (upd (I_6 74) 8 1501) := ⟨_, rfl⟩
  have h := h I_8 hI_9
  refine ar_putf (hp2 := am_mk I_8 L) (q := 41) rfl rfl mk_74 rfl (by rw [hI_9]; exact mk_p74_8) rfl ?_
  exact ar_vret rfl rfl h
theorem r_Reviews_isCounting1_0 {d : Nat} {R : am_R} {I : Nat → Nat → Int32} {L : Nat → Nat → Int64} {s : Nat} {k : Int32} (h : s < 60 ∧ ((((I 83 s) ≤ k → (∃ j_3 : Nat, j_3 < 2 ∧ 1 - 1 = nI j_3 ∧ ((((I (82 + j_3) s) ≤ k → (R (some (.int 1)) (am_mk I L, 0, 0))) ∧ (¬ (I (82 + j_3) s) ≤ k → (((k ≤ ((I 69 s) + 14) → (R (some (.int 0)) (am_mk I L, 0, 0))) ∧ (¬ k ≤ ((I 69 s) + 14) → (R (some (.int 1)) (am_mk I L, 0, 0)))))))))) ∧ (¬ (I 83 s) ≤ k → (R (some (.int 0)) (am_mk I L, 0, 0)))))) : am_Run am_X0 (am_meth d) 78 R 0 [some (.ref 74), some (.int 1), some (.int (nI s)), some (.int k)] [] (am_mk I L, 0, 0) := by
  refine ar_aload_n (j := 0) (q := 1) rfl rfl rfl rfl ?_
  refine ar_getf (v := .ref 81) (q := 4) rfl rfl mk_74 rfl rfl ?_
  refine ar_iload_n (j := 1) (q := 5) rfl rfl rfl rfl ?_
  refine ar_aald (c2 := 83) (q := 6) rfl mk_81 (am_inE rfl (by decide) (by decide)) (congrArg (fun z => some (82 + z)) (am_clT (n := 2) rfl (by decide) (by decide))) rfl ?_
  refine ar_iload_n (j := 2) (q := 7) rfl rfl rfl rfl ?_
  obtain ⟨hx_1, h⟩ := h
  refine ar_iald (v := I 83 s) (q := 8) rfl mk_83 (am_inE rfl hx_1 (by decide)) (am_clE rfl hx_1 (by decide)) rfl ?_
  refine ar_iload_n (j := 3) (q := 9) rfl rfl rfl rfl ?_
  obtain ⟨hA, hB⟩ := h
  refine ar_br am_c_le (t := 14) (q := 12) rfl rfl rfl (fun c_2 => ?_) (fun c_2 => ?_)
  · have h := hA c_2
    clear hA hB
    refine ar_aload_n (j := 0) (q := 15) rfl rfl rfl rfl ?_
    refine ar_getf (v := .ref 81) (q := 18) rfl rfl mk_74 rfl rfl ?_
    refine ar_iconst (v := 1) (q := 19) rfl rfl rfl ?_
    refine ar_iload_n (j := 1) (q := 20) rfl rfl rfl rfl ?_
    refine ar_ib (i := .isub) (z := 1 - 1) (q := 21) rfl rfl rfl rfl rfl ?_
    obtain ⟨j_3, hx_4, hi_5, h⟩ := h
    refine ar_aald (c2 := 82 + j_3) (q := 22) rfl mk_81 (am_inE hi_5 hx_4 (by decide)) (congrArg (fun z => some (82 + z)) (am_clT (n := 2) hi_5 hx_4 (by decide))) rfl ?_
    refine ar_iload_n (j := 2) (q := 23) rfl rfl rfl rfl ?_
    refine ar_iald (v := I (82 + j_3) s) (q := 24) rfl (mk_g81 hx_4) (am_inE rfl hx_1 (by decide)) (am_clE rfl hx_1 (by decide)) rfl ?_
    refine ar_iload_n (j := 3) (q := 25) rfl rfl rfl rfl ?_
    obtain ⟨hA, hB⟩ := h
    refine ar_br am_c_le (t := 44) (q := 28) rfl rfl rfl (fun c_6 => ?_) (fun c_6 => ?_)
    · have h := hA c_6
      clear hA hB
      refine ar_iconst (v := 1) (q := 45) rfl rfl rfl ?_
      refine ar_goto (t := 49) rfl rfl ?_
      exact ar_zret rfl rfl (Or.inr rfl) h
    · have h := hB c_6
      clear hA hB
      refine ar_iload_n (j := 3) (q := 29) rfl rfl rfl rfl ?_
      refine ar_aload_n (j := 0) (q := 30) rfl rfl rfl rfl ?_
      refine ar_getf (v := .ref 66) (q := 33) rfl rfl mk_74 rfl rfl ?_
      refine ar_getf (v := .ref 69) (q := 36) rfl rfl mk_66 rfl rfl ?_
      refine ar_iload_n (j := 2) (q := 37) rfl rfl rfl rfl ?_
      refine ar_iald (v := I 69 s) (q := 38) rfl mk_69 (am_inE rfl hx_1 (by decide)) (am_clE rfl hx_1 (by decide)) rfl ?_
      refine ar_bipush (v := 14) (q := 40) rfl rfl rfl ?_
      refine ar_ib (i := .iadd) (z := (I 69 s) + 14) (q := 41) rfl rfl rfl rfl rfl ?_
      obtain ⟨hA, hB⟩ := h
      refine ar_br am_c_le (t := 48) (q := 44) rfl rfl rfl (fun c_7 => ?_) (fun c_7 => ?_)
      · have h := hA c_7
        clear hA hB
        refine ar_iconst (v := 0) (q := 49) rfl rfl rfl ?_
        exact ar_zret rfl rfl (Or.inl rfl) h
      · have h := hB c_7
        clear hA hB
        refine ar_iconst (v := 1) (q := 45) rfl rfl rfl ?_
        refine ar_goto (t := 49) rfl rfl ?_
        exact ar_zret rfl rfl (Or.inr rfl) h
  · have h := hB c_2
    clear hA hB
    refine ar_iconst (v := 0) (q := 13) rfl rfl rfl ?_
    exact ar_zret rfl rfl (Or.inl rfl) h
theorem r_Reviews_mayBeTold1_0 {d : Nat} (hd : 1 ≤ d) {R : am_R} {I : Nat → Nat → Int32} {L : Nat → Nat → Int64} {s : Nat} (h : (s < 60) ∧ (((I 69 s < I 66 0 → (s < 60 ∧ ((((I 66 0) ≤ ((I 69 s) + 30) → ((((I 70 s) = 1 → ((((I 83 s) = 1501 → (R (some (.int 1)) (am_mk I L, 0, 0))) ∧ (¬ (I 83 s) = 1501 → (R (some (.int 0)) (am_mk I L, 0, 0)))))) ∧ (¬ (I 70 s) = 1 → (R (some (.int 0)) (am_mk I L, 0, 0)))))) ∧ (¬ (I 66 0) ≤ ((I 69 s) + 30) → ((((I 70 s) = 1 → (R (some (.int 0)) (am_mk I L, 0, 0))) ∧ (¬ (I 70 s) = 1 → (R (some (.int 0)) (am_mk I L, 0, 0)))))))))) ∧ (¬ (I 69 s < I 66 0) → (s < 60 ∧ ((((I 70 s) = 1 → (R (some (.int 0)) (am_mk I L, 0, 0))) ∧ (¬ (I 70 s) = 1 → (R (some (.int 0)) (am_mk I L, 0, 0)))))))))) : am_Run am_X0 (am_meth d) 80 R 0 [some (.ref 74), some (.int 1), some (.int (nI s)), none] [] (am_mk I L, 0, 0) := by
  refine ar_aload_n (j := 0) (q := 1) rfl rfl rfl rfl ?_
  refine ar_getf (v := .ref 66) (q := 4) rfl rfl mk_74 rfl rfl ?_
  refine ar_iload_n (j := 2) (q := 5) rfl rfl rfl rfl ?_
  refine ar_invv (as := [.int (nI s)]) (rest := []) (b2 := (0, 0)) (b3 := (0, 0)) (q := 8) rfl rfl rfl rfl mk_66 rfl rfl rfl rfl rfl ?_
  obtain ⟨hp_2, h⟩ := h
  obtain ⟨hA, hB⟩ := h
  refine ok_St_isOver (by omega) rfl hp_2 (fun c_1 => ?_) (fun c_1 => ?_)
  · have h := hA c_1
    clear hA hB
    show am_Run am_X0 (am_meth d) 80 R 8 [some (.ref 74), some (.int 1), some (.int (nI s)), none] [.int 1] (am_mk I L, 0, 0)
    refine ar_b0 am_c_eq (t := 37) (q := 11) rfl rfl rfl (fun c9 => absurd c9 (by decide)) (fun _ => ?_)
    refine ar_aload_n (j := 0) (q := 12) rfl rfl rfl rfl ?_
    refine ar_getf (v := .ref 66) (q := 15) rfl rfl mk_74 rfl rfl ?_
    refine ar_getf (v := .int (I 66 0)) (q := 18) rfl rfl mk_66 rfl rfl ?_
    refine ar_aload_n (j := 0) (q := 19) rfl rfl rfl rfl ?_
    refine ar_getf (v := .ref 66) (q := 22) rfl rfl mk_74 rfl rfl ?_
    refine ar_getf (v := .ref 69) (q := 25) rfl rfl mk_66 rfl rfl ?_
    refine ar_iload_n (j := 2) (q := 26) rfl rfl rfl rfl ?_
    obtain ⟨hx_3, h⟩ := h
    refine ar_iald (v := I 69 s) (q := 27) rfl mk_69 (am_inE rfl hx_3 (by decide)) (am_clE rfl hx_3 (by decide)) rfl ?_
    refine ar_bipush (v := 30) (q := 29) rfl rfl rfl ?_
    refine ar_ib (i := .iadd) (z := (I 69 s) + 30) (q := 30) rfl rfl rfl rfl rfl ?_
    obtain ⟨hA, hB⟩ := h
    refine ar_br am_d_gt (t := 37) (q := 33) rfl rfl rfl (fun c_4 => ?_) (fun c_4 => ?_)
    · have h := hB c_4
      clear hA hB
      refine ar_iconst (v := 0) (q := 38) rfl rfl rfl ?_
      refine ar_istore_n (j := 3) (ls' := [some (.ref 74), some (.int 1), some (.int (nI s)), some (.int 0)]) (q := 39) rfl rfl rfl rfl rfl ?_
      refine ar_aload_n (j := 0) (q := 40) rfl rfl rfl rfl ?_
      refine ar_getf (v := .ref 66) (q := 43) rfl rfl mk_74 rfl rfl ?_
      refine ar_getf (v := .ref 70) (q := 46) rfl rfl mk_66 rfl rfl ?_
      refine ar_iload_n (j := 2) (q := 47) rfl rfl rfl rfl ?_
      refine ar_iald (v := I 70 s) (q := 48) rfl mk_70 (am_inE rfl hx_3 (by decide)) (am_clE rfl hx_3 (by decide)) rfl ?_
      refine ar_iconst (v := 1) (q := 49) rfl rfl rfl ?_
      obtain ⟨hA, hB⟩ := h
      refine ar_br am_c_ne (t := 74) (q := 52) rfl rfl rfl (fun c_7 => ?_) (fun c_7 => ?_)
      · have h := hB c_7
        clear hA hB
        refine ar_iconst (v := 0) (q := 75) rfl rfl rfl ?_
        exact ar_zret rfl rfl (Or.inl rfl) h
      · have c_7 := Classical.not_not.mp c_7
        have h := hA c_7
        clear hA hB
        refine ar_iload_n (j := 3) (q := 53) rfl rfl rfl rfl ?_
        refine ar_b0 am_c_eq (t := 74) (q := 56) rfl rfl rfl (fun _ => ?_) (fun c9 => absurd (by decide) c9)
        refine ar_iconst (v := 0) (q := 75) rfl rfl rfl ?_
        exact ar_zret rfl rfl (Or.inl rfl) h
    · have c_4 := Classical.not_not.mp c_4
      have h := hA c_4
      clear hA hB
      refine ar_iconst (v := 1) (q := 34) rfl rfl rfl ?_
      refine ar_goto (t := 38) rfl rfl ?_
      refine ar_istore_n (j := 3) (ls' := [some (.ref 74), some (.int 1), some (.int (nI s)), some (.int 1)]) (q := 39) rfl rfl rfl rfl rfl ?_
      refine ar_aload_n (j := 0) (q := 40) rfl rfl rfl rfl ?_
      refine ar_getf (v := .ref 66) (q := 43) rfl rfl mk_74 rfl rfl ?_
      refine ar_getf (v := .ref 70) (q := 46) rfl rfl mk_66 rfl rfl ?_
      refine ar_iload_n (j := 2) (q := 47) rfl rfl rfl rfl ?_
      refine ar_iald (v := I 70 s) (q := 48) rfl mk_70 (am_inE rfl hx_3 (by decide)) (am_clE rfl hx_3 (by decide)) rfl ?_
      refine ar_iconst (v := 1) (q := 49) rfl rfl rfl ?_
      obtain ⟨hA, hB⟩ := h
      refine ar_br am_c_ne (t := 74) (q := 52) rfl rfl rfl (fun c_5 => ?_) (fun c_5 => ?_)
      · have h := hB c_5
        clear hA hB
        refine ar_iconst (v := 0) (q := 75) rfl rfl rfl ?_
        exact ar_zret rfl rfl (Or.inl rfl) h
      · have c_5 := Classical.not_not.mp c_5
        have h := hA c_5
        clear hA hB
        refine ar_iload_n (j := 3) (q := 53) rfl rfl rfl rfl ?_
        refine ar_b0 am_c_eq (t := 74) (q := 56) rfl rfl rfl (fun c9 => absurd c9 (by decide)) (fun _ => ?_)
        refine ar_aload_n (j := 0) (q := 57) rfl rfl rfl rfl ?_
        refine ar_getf (v := .ref 81) (q := 60) rfl rfl mk_74 rfl rfl ?_
        refine ar_iload_n (j := 1) (q := 61) rfl rfl rfl rfl ?_
        refine ar_aald (c2 := 83) (q := 62) rfl mk_81 (am_inE rfl (by decide) (by decide)) (congrArg (fun z => some (82 + z)) (am_clT (n := 2) rfl (by decide) (by decide))) rfl ?_
        refine ar_iload_n (j := 2) (q := 63) rfl rfl rfl rfl ?_
        refine ar_iald (v := I 83 s) (q := 64) rfl mk_83 (am_inE rfl hx_3 (by decide)) (am_clE rfl hx_3 (by decide)) rfl ?_
        refine ar_sipush (v := 1501) (q := 67) rfl rfl rfl ?_
        obtain ⟨hA, hB⟩ := h
        refine ar_br am_c_ne (t := 74) (q := 70) rfl rfl rfl (fun c_6 => ?_) (fun c_6 => ?_)
        · have h := hB c_6
          clear hA hB
          refine ar_iconst (v := 0) (q := 75) rfl rfl rfl ?_
          exact ar_zret rfl rfl (Or.inl rfl) h
        · have c_6 := Classical.not_not.mp c_6
          have h := hA c_6
          clear hA hB
          refine ar_iconst (v := 1) (q := 71) rfl rfl rfl ?_
          refine ar_goto (t := 75) rfl rfl ?_
          exact ar_zret rfl rfl (Or.inr rfl) h
  · have h := hB c_1
    clear hA hB
    show am_Run am_X0 (am_meth d) 80 R 8 [some (.ref 74), some (.int 1), some (.int (nI s)), none] [.int 0] (am_mk I L, 0, 0)
    refine ar_b0 am_c_eq (t := 37) (q := 11) rfl rfl rfl (fun _ => ?_) (fun c9 => absurd (by decide) c9)
    refine ar_iconst (v := 0) (q := 38) rfl rfl rfl ?_
    refine ar_istore_n (j := 3) (ls' := [some (.ref 74), some (.int 1), some (.int (nI s)), some (.int 0)]) (q := 39) rfl rfl rfl rfl rfl ?_
    refine ar_aload_n (j := 0) (q := 40) rfl rfl rfl rfl ?_
    refine ar_getf (v := .ref 66) (q := 43) rfl rfl mk_74 rfl rfl ?_
    refine ar_getf (v := .ref 70) (q := 46) rfl rfl mk_66 rfl rfl ?_
    refine ar_iload_n (j := 2) (q := 47) rfl rfl rfl rfl ?_
    obtain ⟨hx_8, h⟩ := h
    refine ar_iald (v := I 70 s) (q := 48) rfl mk_70 (am_inE rfl hx_8 (by decide)) (am_clE rfl hx_8 (by decide)) rfl ?_
    refine ar_iconst (v := 1) (q := 49) rfl rfl rfl ?_
    obtain ⟨hA, hB⟩ := h
    refine ar_br am_c_ne (t := 74) (q := 52) rfl rfl rfl (fun c_9 => ?_) (fun c_9 => ?_)
    · have h := hB c_9
      clear hA hB
      refine ar_iconst (v := 0) (q := 75) rfl rfl rfl ?_
      exact ar_zret rfl rfl (Or.inl rfl) h
    · have c_9 := Classical.not_not.mp c_9
      have h := hA c_9
      clear hA hB
      refine ar_iload_n (j := 3) (q := 53) rfl rfl rfl rfl ?_
      refine ar_b0 am_c_eq (t := 74) (q := 56) rfl rfl rfl (fun _ => ?_) (fun c9 => absurd (by decide) c9)
      refine ar_iconst (v := 0) (q := 75) rfl rfl rfl ?_
      exact ar_zret rfl rfl (Or.inl rfl) h
theorem r_Reviews_add1_0 {d : Nat} {R : am_R} {I : Nat → Nat → Int32} {L : Nat → Nat → Int64} {s : Nat} {x : Int32} (h : s < 60 ∧ (∀ I_2 : Nat → Nat → Int32, I_2 = va_up I 80 (upd (I 80) s x) → (∀ I_4 : Nat → Nat → Int32, I_4 = va_up I_2 83 (upd (I_2 83) s (I_2 66 0)) → (∀ I_6 : Nat → Nat → Int32, I_6 = va_up I_4 74 (upd (I_4 74) 0 ((I_4 74 0) + 1)) → (∀ I_8 : Nat → Nat → Int32, I_8 = va_up I_6 74 (upd (I_6 74) 8 1501) → (R none (am_mk I_8 L, 0, 0))))))) : am_Run am_X0 (am_meth d) 81 R 0 [some (.ref 74), some (.int 1), some (.int (nI s)), some (.int x)] [] (am_mk I L, 0, 0) := by
  refine ar_aload_n (j := 0) (q := 1) rfl rfl rfl rfl ?_
  refine ar_getf (v := .ref 78) (q := 4) rfl rfl mk_74 rfl rfl ?_
  refine ar_iload_n (j := 1) (q := 5) rfl rfl rfl rfl ?_
  refine ar_aald (c2 := 80) (q := 6) rfl mk_78 (am_inE rfl (by decide) (by decide)) (congrArg (fun z => some (79 + z)) (am_clT (n := 2) rfl (by decide) (by decide))) rfl ?_
  refine ar_iload_n (j := 2) (q := 7) rfl rfl rfl rfl ?_
  refine ar_iload_n (j := 3) (q := 8) rfl rfl rfl rfl ?_
  obtain ⟨hx_1, h⟩ := h
  obtain ⟨I_2, hI_3⟩ : ∃ z : Nat → Nat → Int32, z = va_up I 80 (upd (I 80) s x) := ⟨_, rfl⟩
  have h := h I_2 hI_3
  refine ar_iast (hp2 := am_mk I_2 L) (q := 9) rfl mk_80 (am_inE rfl hx_1 (by decide)) (by rw [am_clT rfl hx_1 (by decide), hI_3]; exact mk_s80) rfl ?_
  refine ar_aload_n (j := 0) (q := 10) rfl rfl rfl rfl ?_
  refine ar_getf (v := .ref 81) (q := 13) rfl rfl mk_74 rfl rfl ?_
  refine ar_iload_n (j := 1) (q := 14) rfl rfl rfl rfl ?_
  refine ar_aald (c2 := 83) (q := 15) rfl mk_81 (am_inE rfl (by decide) (by decide)) (congrArg (fun z => some (82 + z)) (am_clT (n := 2) rfl (by decide) (by decide))) rfl ?_
  refine ar_iload_n (j := 2) (q := 16) rfl rfl rfl rfl ?_
  refine ar_aload_n (j := 0) (q := 17) rfl rfl rfl rfl ?_
  refine ar_getf (v := .ref 66) (q := 20) rfl rfl mk_74 rfl rfl ?_
  refine ar_getf (v := .int (I_2 66 0)) (q := 23) rfl rfl mk_66 rfl rfl ?_
  obtain ⟨I_4, hI_5⟩ : ∃ z : Nat → Nat → Int32, z = va_up I_2 83 (upd (I_2 83) s (I_2 66 0)) := ⟨_, rfl⟩
  have h := h I_4 hI_5
  refine ar_iast (hp2 := am_mk I_4 L) (q := 24) rfl mk_83 (am_inE rfl hx_1 (by decide)) (by rw [am_clT rfl hx_1 (by decide), hI_5]; exact mk_s83) rfl ?_
  refine ar_aload_n (j := 0) (q := 25) rfl rfl rfl rfl ?_
  refine ar_st (i := .dup) (n := 1) (st' := [.ref 74, .ref 74]) (q := 26) rfl rfl rfl rfl ?_
  refine ar_getf (v := .int (I_4 74 0)) (q := 29) rfl rfl mk_74 rfl rfl ?_
  refine ar_iconst (v := 1) (q := 30) rfl rfl rfl ?_
  refine ar_ib (i := .iadd) (z := (I_4 74 0) + 1) (q := 31) rfl rfl rfl rfl rfl ?_
  obtain ⟨I_6, hI_7⟩ : ∃ z : Nat → Nat → Int32, z = va_up I_4 74 (upd (I_4 74) 0 ((I_4 74 0) + 1)) := ⟨_, rfl⟩
  have h := h I_6 hI_7
  refine ar_putf (hp2 := am_mk I_6 L) (q := 34) rfl rfl mk_74 rfl (by rw [hI_7]; exact mk_p74_0) rfl ?_
  refine ar_aload_n (j := 0) (q := 35) rfl rfl rfl rfl ?_
  refine ar_sipush (v := 1501) (q := 38) rfl rfl rfl ?_
  obtain ⟨I_8, hI_9⟩ : ∃ z : Nat → Nat → Int32, z = va_up I_6 74 (upd (I_6 74) 8 1501) := ⟨_, rfl⟩
  have h := h I_8 hI_9
  refine ar_putf (hp2 := am_mk I_8 L) (q := 41) rfl rfl mk_74 rfl (by rw [hI_9]; exact mk_p74_8) rfl ?_
  exact ar_vret rfl rfl h
theorem r_M_counts_0 {d : Nat} {R : am_R} {I : Nat → Nat → Int32} {L : Nat → Nat → Int64} {r : Nat} {k : Int32} (h : r < 120 ∧ ((((I 130 r) = 0 → (R (some (.int 0)) (am_mk I L, 0, 0))) ∧ (¬ (I 130 r) = 0 → ((((I 131 r) ≤ k → (((((nI r) - (nI r) / 2 * 2) = 0 → (∃ j_5 : Nat, j_5 < 120 ∧ (nI r) + 1 = nI j_5 ∧ ((((I 130 j_5) ≤ 0 → (∃ j_9 : Nat, j_9 < 60 ∧ (nI r) / 2 = nI j_9 ∧ (((k ≤ ((I 127 j_9) + 14) → (R (some (.int 0)) (am_mk I L, 0, 0))) ∧ (¬ k ≤ ((I 127 j_9) + 14) → (R (some (.int 1)) (am_mk I L, 0, 0))))))) ∧ (¬ (I 130 j_5) ≤ 0 → ((((I 131 j_5) ≤ k → (R (some (.int 1)) (am_mk I L, 0, 0))) ∧ (¬ (I 131 j_5) ≤ k → (∃ j_14 : Nat, j_14 < 60 ∧ (nI r) / 2 = nI j_14 ∧ (((k ≤ ((I 127 j_14) + 14) → (R (some (.int 0)) (am_mk I L, 0, 0))) ∧ (¬ k ≤ ((I 127 j_14) + 14) → (R (some (.int 1)) (am_mk I L, 0, 0)))))))))))))) ∧ (¬ ((nI r) - (nI r) / 2 * 2) = 0 → (∃ j_18 : Nat, j_18 < 120 ∧ (nI r) - 1 = nI j_18 ∧ ((((I 130 j_18) ≤ 0 → (∃ j_22 : Nat, j_22 < 60 ∧ (nI r) / 2 = nI j_22 ∧ (((k ≤ ((I 127 j_22) + 14) → (R (some (.int 0)) (am_mk I L, 0, 0))) ∧ (¬ k ≤ ((I 127 j_22) + 14) → (R (some (.int 1)) (am_mk I L, 0, 0))))))) ∧ (¬ (I 130 j_18) ≤ 0 → ((((I 131 j_18) ≤ k → (R (some (.int 1)) (am_mk I L, 0, 0))) ∧ (¬ (I 131 j_18) ≤ k → (∃ j_27 : Nat, j_27 < 60 ∧ (nI r) / 2 = nI j_27 ∧ (((k ≤ ((I 127 j_27) + 14) → (R (some (.int 0)) (am_mk I L, 0, 0))) ∧ (¬ k ≤ ((I 127 j_27) + 14) → (R (some (.int 1)) (am_mk I L, 0, 0))))))))))))))))) ∧ (¬ (I 131 r) ≤ k → (R (some (.int 0)) (am_mk I L, 0, 0))))))))) : am_Run am_X0 (am_meth d) 185 R 0 [some (.ref 113), some (.int (nI r)), some (.int k), none] [] (am_mk I L, 0, 0) := by
  refine ar_aload_n (j := 0) (q := 1) rfl rfl rfl rfl ?_
  refine ar_getf (v := .ref 130) (q := 4) rfl rfl mk_113 rfl rfl ?_
  refine ar_iload_n (j := 1) (q := 5) rfl rfl rfl rfl ?_
  obtain ⟨hx_1, h⟩ := h
  refine ar_iald (v := I 130 r) (q := 6) rfl mk_130 (am_inE rfl hx_1 (by decide)) (am_clE rfl hx_1 (by decide)) rfl ?_
  obtain ⟨hA, hB⟩ := h
  refine ar_b0 am_c_eq (t := 19) (q := 9) rfl rfl rfl (fun c_2 => ?_) (fun c_2 => ?_)
  · have h := hA c_2
    clear hA hB
    refine ar_iconst (v := 0) (q := 20) rfl rfl rfl ?_
    exact ar_zret rfl rfl (Or.inl rfl) h
  · have h := hB c_2
    clear hA hB
    refine ar_aload_n (j := 0) (q := 10) rfl rfl rfl rfl ?_
    refine ar_getf (v := .ref 131) (q := 13) rfl rfl mk_113 rfl rfl ?_
    refine ar_iload_n (j := 1) (q := 14) rfl rfl rfl rfl ?_
    refine ar_iald (v := I 131 r) (q := 15) rfl mk_131 (am_inE rfl hx_1 (by decide)) (am_clE rfl hx_1 (by decide)) rfl ?_
    refine ar_iload_n (j := 2) (q := 16) rfl rfl rfl rfl ?_
    obtain ⟨hA, hB⟩ := h
    refine ar_br am_c_le (t := 21) (q := 19) rfl rfl rfl (fun c_3 => ?_) (fun c_3 => ?_)
    · have h := hA c_3
      clear hA hB
      refine ar_iload_n (j := 1) (q := 22) rfl rfl rfl rfl ?_
      refine ar_iconst (v := 2) (q := 23) rfl rfl rfl ?_
      refine ar_irem (q := 24) rfl (by decide) rfl ?_
      obtain ⟨hA, hB⟩ := h
      refine ar_b0 am_c_ne (t := 33) (q := 27) rfl rfl rfl (fun c_4 => ?_) (fun c_4 => ?_)
      · have h := hB c_4
        clear hA hB
        refine ar_iload_n (j := 1) (q := 34) rfl rfl rfl rfl ?_
        refine ar_iconst (v := 1) (q := 35) rfl rfl rfl ?_
        refine ar_ib (i := .isub) (z := (nI r) - 1) (q := 36) rfl rfl rfl rfl rfl ?_
        refine ar_istore_n (j := 3) (ls' := [some (.ref 113), some (.int (nI r)), some (.int k), some (.int ((nI r) - 1))]) (q := 37) rfl rfl rfl rfl rfl ?_
        refine ar_aload_n (j := 0) (q := 38) rfl rfl rfl rfl ?_
        refine ar_getf (v := .ref 130) (q := 41) rfl rfl mk_113 rfl rfl ?_
        refine ar_iload_n (j := 3) (q := 42) rfl rfl rfl rfl ?_
        obtain ⟨j_18, hx_19, hi_20, h⟩ := h
        refine ar_iald (v := I 130 j_18) (q := 43) rfl mk_130 (am_inE hi_20 hx_19 (by decide)) (am_clE hi_20 hx_19 (by decide)) rfl ?_
        obtain ⟨hA, hB⟩ := h
        refine ar_b0 am_c_le (t := 56) (q := 46) rfl rfl rfl (fun c_21 => ?_) (fun c_21 => ?_)
        · have h := hA c_21
          clear hA hB
          refine ar_iload_n (j := 2) (q := 57) rfl rfl rfl rfl ?_
          refine ar_aload_n (j := 0) (q := 58) rfl rfl rfl rfl ?_
          refine ar_getf (v := .ref 127) (q := 61) rfl rfl mk_113 rfl rfl ?_
          refine ar_iload_n (j := 1) (q := 62) rfl rfl rfl rfl ?_
          refine ar_iconst (v := 2) (q := 63) rfl rfl rfl ?_
          refine ar_idiv (q := 64) rfl (by decide) rfl ?_
          obtain ⟨j_22, hx_23, hi_24, h⟩ := h
          refine ar_iald (v := I 127 j_22) (q := 65) rfl mk_127 (am_inE hi_24 hx_23 (by decide)) (am_clE hi_24 hx_23 (by decide)) rfl ?_
          refine ar_bipush (v := 14) (q := 67) rfl rfl rfl ?_
          refine ar_ib (i := .iadd) (z := (I 127 j_22) + 14) (q := 68) rfl rfl rfl rfl rfl ?_
          obtain ⟨hA, hB⟩ := h
          refine ar_br am_c_le (t := 75) (q := 71) rfl rfl rfl (fun c_25 => ?_) (fun c_25 => ?_)
          · have h := hA c_25
            clear hA hB
            refine ar_iconst (v := 0) (q := 76) rfl rfl rfl ?_
            exact ar_zret rfl rfl (Or.inl rfl) h
          · have h := hB c_25
            clear hA hB
            refine ar_iconst (v := 1) (q := 72) rfl rfl rfl ?_
            refine ar_goto (t := 76) rfl rfl ?_
            exact ar_zret rfl rfl (Or.inr rfl) h
        · have h := hB c_21
          clear hA hB
          refine ar_aload_n (j := 0) (q := 47) rfl rfl rfl rfl ?_
          refine ar_getf (v := .ref 131) (q := 50) rfl rfl mk_113 rfl rfl ?_
          refine ar_iload_n (j := 3) (q := 51) rfl rfl rfl rfl ?_
          refine ar_iald (v := I 131 j_18) (q := 52) rfl mk_131 (am_inE hi_20 hx_19 (by decide)) (am_clE hi_20 hx_19 (by decide)) rfl ?_
          refine ar_iload_n (j := 2) (q := 53) rfl rfl rfl rfl ?_
          obtain ⟨hA, hB⟩ := h
          refine ar_br am_c_le (t := 71) (q := 56) rfl rfl rfl (fun c_26 => ?_) (fun c_26 => ?_)
          · have h := hA c_26
            clear hA hB
            refine ar_iconst (v := 1) (q := 72) rfl rfl rfl ?_
            refine ar_goto (t := 76) rfl rfl ?_
            exact ar_zret rfl rfl (Or.inr rfl) h
          · have h := hB c_26
            clear hA hB
            refine ar_iload_n (j := 2) (q := 57) rfl rfl rfl rfl ?_
            refine ar_aload_n (j := 0) (q := 58) rfl rfl rfl rfl ?_
            refine ar_getf (v := .ref 127) (q := 61) rfl rfl mk_113 rfl rfl ?_
            refine ar_iload_n (j := 1) (q := 62) rfl rfl rfl rfl ?_
            refine ar_iconst (v := 2) (q := 63) rfl rfl rfl ?_
            refine ar_idiv (q := 64) rfl (by decide) rfl ?_
            obtain ⟨j_27, hx_28, hi_29, h⟩ := h
            refine ar_iald (v := I 127 j_27) (q := 65) rfl mk_127 (am_inE hi_29 hx_28 (by decide)) (am_clE hi_29 hx_28 (by decide)) rfl ?_
            refine ar_bipush (v := 14) (q := 67) rfl rfl rfl ?_
            refine ar_ib (i := .iadd) (z := (I 127 j_27) + 14) (q := 68) rfl rfl rfl rfl rfl ?_
            obtain ⟨hA, hB⟩ := h
            refine ar_br am_c_le (t := 75) (q := 71) rfl rfl rfl (fun c_30 => ?_) (fun c_30 => ?_)
            · have h := hA c_30
              clear hA hB
              refine ar_iconst (v := 0) (q := 76) rfl rfl rfl ?_
              exact ar_zret rfl rfl (Or.inl rfl) h
            · have h := hB c_30
              clear hA hB
              refine ar_iconst (v := 1) (q := 72) rfl rfl rfl ?_
              refine ar_goto (t := 76) rfl rfl ?_
              exact ar_zret rfl rfl (Or.inr rfl) h
      · have c_4 := Classical.not_not.mp c_4
        have h := hA c_4
        clear hA hB
        refine ar_iload_n (j := 1) (q := 28) rfl rfl rfl rfl ?_
        refine ar_iconst (v := 1) (q := 29) rfl rfl rfl ?_
        refine ar_ib (i := .iadd) (z := (nI r) + 1) (q := 30) rfl rfl rfl rfl rfl ?_
        refine ar_goto (t := 36) rfl rfl ?_
        refine ar_istore_n (j := 3) (ls' := [some (.ref 113), some (.int (nI r)), some (.int k), some (.int ((nI r) + 1))]) (q := 37) rfl rfl rfl rfl rfl ?_
        refine ar_aload_n (j := 0) (q := 38) rfl rfl rfl rfl ?_
        refine ar_getf (v := .ref 130) (q := 41) rfl rfl mk_113 rfl rfl ?_
        refine ar_iload_n (j := 3) (q := 42) rfl rfl rfl rfl ?_
        obtain ⟨j_5, hx_6, hi_7, h⟩ := h
        refine ar_iald (v := I 130 j_5) (q := 43) rfl mk_130 (am_inE hi_7 hx_6 (by decide)) (am_clE hi_7 hx_6 (by decide)) rfl ?_
        obtain ⟨hA, hB⟩ := h
        refine ar_b0 am_c_le (t := 56) (q := 46) rfl rfl rfl (fun c_8 => ?_) (fun c_8 => ?_)
        · have h := hA c_8
          clear hA hB
          refine ar_iload_n (j := 2) (q := 57) rfl rfl rfl rfl ?_
          refine ar_aload_n (j := 0) (q := 58) rfl rfl rfl rfl ?_
          refine ar_getf (v := .ref 127) (q := 61) rfl rfl mk_113 rfl rfl ?_
          refine ar_iload_n (j := 1) (q := 62) rfl rfl rfl rfl ?_
          refine ar_iconst (v := 2) (q := 63) rfl rfl rfl ?_
          refine ar_idiv (q := 64) rfl (by decide) rfl ?_
          obtain ⟨j_9, hx_10, hi_11, h⟩ := h
          refine ar_iald (v := I 127 j_9) (q := 65) rfl mk_127 (am_inE hi_11 hx_10 (by decide)) (am_clE hi_11 hx_10 (by decide)) rfl ?_
          refine ar_bipush (v := 14) (q := 67) rfl rfl rfl ?_
          refine ar_ib (i := .iadd) (z := (I 127 j_9) + 14) (q := 68) rfl rfl rfl rfl rfl ?_
          obtain ⟨hA, hB⟩ := h
          refine ar_br am_c_le (t := 75) (q := 71) rfl rfl rfl (fun c_12 => ?_) (fun c_12 => ?_)
          · have h := hA c_12
            clear hA hB
            refine ar_iconst (v := 0) (q := 76) rfl rfl rfl ?_
            exact ar_zret rfl rfl (Or.inl rfl) h
          · have h := hB c_12
            clear hA hB
            refine ar_iconst (v := 1) (q := 72) rfl rfl rfl ?_
            refine ar_goto (t := 76) rfl rfl ?_
            exact ar_zret rfl rfl (Or.inr rfl) h
        · have h := hB c_8
          clear hA hB
          refine ar_aload_n (j := 0) (q := 47) rfl rfl rfl rfl ?_
          refine ar_getf (v := .ref 131) (q := 50) rfl rfl mk_113 rfl rfl ?_
          refine ar_iload_n (j := 3) (q := 51) rfl rfl rfl rfl ?_
          refine ar_iald (v := I 131 j_5) (q := 52) rfl mk_131 (am_inE hi_7 hx_6 (by decide)) (am_clE hi_7 hx_6 (by decide)) rfl ?_
          refine ar_iload_n (j := 2) (q := 53) rfl rfl rfl rfl ?_
          obtain ⟨hA, hB⟩ := h
          refine ar_br am_c_le (t := 71) (q := 56) rfl rfl rfl (fun c_13 => ?_) (fun c_13 => ?_)
          · have h := hA c_13
            clear hA hB
            refine ar_iconst (v := 1) (q := 72) rfl rfl rfl ?_
            refine ar_goto (t := 76) rfl rfl ?_
            exact ar_zret rfl rfl (Or.inr rfl) h
          · have h := hB c_13
            clear hA hB
            refine ar_iload_n (j := 2) (q := 57) rfl rfl rfl rfl ?_
            refine ar_aload_n (j := 0) (q := 58) rfl rfl rfl rfl ?_
            refine ar_getf (v := .ref 127) (q := 61) rfl rfl mk_113 rfl rfl ?_
            refine ar_iload_n (j := 1) (q := 62) rfl rfl rfl rfl ?_
            refine ar_iconst (v := 2) (q := 63) rfl rfl rfl ?_
            refine ar_idiv (q := 64) rfl (by decide) rfl ?_
            obtain ⟨j_14, hx_15, hi_16, h⟩ := h
            refine ar_iald (v := I 127 j_14) (q := 65) rfl mk_127 (am_inE hi_16 hx_15 (by decide)) (am_clE hi_16 hx_15 (by decide)) rfl ?_
            refine ar_bipush (v := 14) (q := 67) rfl rfl rfl ?_
            refine ar_ib (i := .iadd) (z := (I 127 j_14) + 14) (q := 68) rfl rfl rfl rfl rfl ?_
            obtain ⟨hA, hB⟩ := h
            refine ar_br am_c_le (t := 75) (q := 71) rfl rfl rfl (fun c_17 => ?_) (fun c_17 => ?_)
            · have h := hA c_17
              clear hA hB
              refine ar_iconst (v := 0) (q := 76) rfl rfl rfl ?_
              exact ar_zret rfl rfl (Or.inl rfl) h
            · have h := hB c_17
              clear hA hB
              refine ar_iconst (v := 1) (q := 72) rfl rfl rfl ?_
              refine ar_goto (t := 76) rfl rfl ?_
              exact ar_zret rfl rfl (Or.inr rfl) h
    · have h := hB c_3
      clear hA hB
      refine ar_iconst (v := 0) (q := 20) rfl rfl rfl ?_
      exact ar_zret rfl rfl (Or.inl rfl) h
theorem r_Reviews_doubtOf_0 {d : Nat} {R : am_R} {I : Nat → Nat → Int32} {L : Nat → Nat → Int64} {k : Nat} (h : k < 20 ∧ (¬ (I 77 k) + 1 = 0 ∧ (R (some (.int (400 / ((I 77 k) + 1)))) (am_mk I L, 0, 0)))) : am_Run am_X0 (am_meth d) 82 R 0 [some (.ref 74), some (.int (nI k))] [] (am_mk I L, 0, 0) := by
  refine ar_sipush (v := 400) (q := 3) rfl rfl rfl ?_
  refine ar_aload_n (j := 0) (q := 4) rfl rfl rfl rfl ?_
  refine ar_getf (v := .ref 77) (q := 7) rfl rfl mk_74 rfl rfl ?_
  refine ar_iload_n (j := 1) (q := 8) rfl rfl rfl rfl ?_
  obtain ⟨hx_1, h⟩ := h
  refine ar_iald (v := I 77 k) (q := 9) rfl mk_77 (am_inE rfl hx_1 (by decide)) (am_clE rfl hx_1 (by decide)) rfl ?_
  refine ar_iconst (v := 1) (q := 10) rfl rfl rfl ?_
  refine ar_ib (i := .iadd) (z := (I 77 k) + 1) (q := 11) rfl rfl rfl rfl rfl ?_
  obtain ⟨hz_2, h⟩ := h
  refine ar_idiv (q := 12) rfl hz_2 rfl ?_
  exact ar_iret rfl rfl h
theorem r_Rules_townOf_0 {d : Nat} {R : am_R} {I : Nat → Nat → Int32} {L : Nat → Nat → Int64} {s : Nat} (h : s < 60 ∧ (∃ j_2 : Nat, j_2 < 20 ∧ I 67 s = nI j_2 ∧ (R (some (.int (I 43 j_2))) (am_mk I L, 0, 0)))) : am_Run am_X0 (am_meth d) 102 R 0 [some (.ref 99), some (.int (nI s))] [] (am_mk I L, 0, 0) := by
  refine ar_aload_n (j := 0) (q := 1) rfl rfl rfl rfl ?_
  refine ar_getf (v := .ref 42) (q := 4) rfl rfl mk_99 rfl rfl ?_
  refine ar_getf (v := .ref 43) (q := 7) rfl rfl mk_42 rfl rfl ?_
  refine ar_aload_n (j := 0) (q := 8) rfl rfl rfl rfl ?_
  refine ar_getf (v := .ref 66) (q := 11) rfl rfl mk_99 rfl rfl ?_
  refine ar_getf (v := .ref 67) (q := 14) rfl rfl mk_66 rfl rfl ?_
  refine ar_iload_n (j := 1) (q := 15) rfl rfl rfl rfl ?_
  obtain ⟨hx_1, h⟩ := h
  refine ar_iald (v := I 67 s) (q := 16) rfl mk_67 (am_inE rfl hx_1 (by decide)) (am_clE rfl hx_1 (by decide)) rfl ?_
  obtain ⟨j_2, hx_3, hi_4, h⟩ := h
  refine ar_iald (v := I 43 j_2) (q := 17) rfl mk_43 (am_inE hi_4 hx_3 (by decide)) (am_clE hi_4 hx_3 (by decide)) rfl ?_
  exact ar_iret rfl rfl h
theorem r_Rules_landOf_0 {d : Nat} {R : am_R} {I : Nat → Nat → Int32} {L : Nat → Nat → Int64} {s : Nat} (h : s < 60 ∧ (∃ j_2 : Nat, j_2 < 20 ∧ I 67 s = nI j_2 ∧ (∃ j_5 : Nat, j_5 < 10 ∧ I 43 j_2 = nI j_5 ∧ (R (some (.int (I 3 j_5))) (am_mk I L, 0, 0))))) : am_Run am_X0 (am_meth d) 105 R 0 [some (.ref 99), some (.int (nI s))] [] (am_mk I L, 0, 0) := by
  refine ar_aload_n (j := 0) (q := 1) rfl rfl rfl rfl ?_
  refine ar_getf (v := .ref 2) (q := 4) rfl rfl mk_99 rfl rfl ?_
  refine ar_getf (v := .ref 3) (q := 7) rfl rfl mk_2 rfl rfl ?_
  refine ar_aload_n (j := 0) (q := 8) rfl rfl rfl rfl ?_
  refine ar_getf (v := .ref 42) (q := 11) rfl rfl mk_99 rfl rfl ?_
  refine ar_getf (v := .ref 43) (q := 14) rfl rfl mk_42 rfl rfl ?_
  refine ar_aload_n (j := 0) (q := 15) rfl rfl rfl rfl ?_
  refine ar_getf (v := .ref 66) (q := 18) rfl rfl mk_99 rfl rfl ?_
  refine ar_getf (v := .ref 67) (q := 21) rfl rfl mk_66 rfl rfl ?_
  refine ar_iload_n (j := 1) (q := 22) rfl rfl rfl rfl ?_
  obtain ⟨hx_1, h⟩ := h
  refine ar_iald (v := I 67 s) (q := 23) rfl mk_67 (am_inE rfl hx_1 (by decide)) (am_clE rfl hx_1 (by decide)) rfl ?_
  obtain ⟨j_2, hx_3, hi_4, h⟩ := h
  refine ar_iald (v := I 43 j_2) (q := 24) rfl mk_43 (am_inE hi_4 hx_3 (by decide)) (am_clE hi_4 hx_3 (by decide)) rfl ?_
  obtain ⟨j_5, hx_6, hi_7, h⟩ := h
  refine ar_iald (v := I 3 j_5) (q := 25) rfl mk_3 (am_inE hi_7 hx_6 (by decide)) (am_clE hi_7 hx_6 (by decide)) rfl ?_
  exact ar_iret rfl rfl h
theorem r_Rules_hasBegun_0 {d : Nat} {R : am_R} {I : Nat → Nat → Int32} {L : Nat → Nat → Int64} {s : Nat} (h : s < 60 ∧ ((((I 68 s) ≤ (I 66 0) → (R (some (.int 1)) (am_mk I L, 0, 0))) ∧ (¬ (I 68 s) ≤ (I 66 0) → (R (some (.int 0)) (am_mk I L, 0, 0)))))) : am_Run am_X0 (am_meth d) 96 R 0 [some (.ref 99), some (.int (nI s))] [] (am_mk I L, 0, 0) := by
  refine ar_aload_n (j := 0) (q := 1) rfl rfl rfl rfl ?_
  refine ar_getf (v := .ref 66) (q := 4) rfl rfl mk_99 rfl rfl ?_
  refine ar_getf (v := .ref 68) (q := 7) rfl rfl mk_66 rfl rfl ?_
  refine ar_iload_n (j := 1) (q := 8) rfl rfl rfl rfl ?_
  obtain ⟨hx_1, h⟩ := h
  refine ar_iald (v := I 68 s) (q := 9) rfl mk_68 (am_inE rfl hx_1 (by decide)) (am_clE rfl hx_1 (by decide)) rfl ?_
  refine ar_aload_n (j := 0) (q := 10) rfl rfl rfl rfl ?_
  refine ar_getf (v := .ref 66) (q := 13) rfl rfl mk_99 rfl rfl ?_
  refine ar_getf (v := .int (I 66 0)) (q := 16) rfl rfl mk_66 rfl rfl ?_
  obtain ⟨hA, hB⟩ := h
  refine ar_br am_d_gt (t := 23) (q := 19) rfl rfl rfl (fun c_2 => ?_) (fun c_2 => ?_)
  · have h := hB c_2
    clear hA hB
    refine ar_iconst (v := 0) (q := 24) rfl rfl rfl ?_
    exact ar_zret rfl rfl (Or.inl rfl) h
  · have c_2 := Classical.not_not.mp c_2
    have h := hA c_2
    clear hA hB
    refine ar_iconst (v := 1) (q := 20) rfl rfl rfl ?_
    refine ar_goto (t := 24) rfl rfl ?_
    exact ar_zret rfl rfl (Or.inr rfl) h
theorem r_Rules_hasStrangeBeasts_0 {d : Nat} {R : am_R} {I : Nat → Nat → Int32} {L : Nat → Nat → Int64} {k : Nat} {s : Nat} (h : s < 60 ∧ (∃ j_2 : Nat, j_2 < 20 ∧ I 67 s = nI j_2 ∧ (k < 20 ∧ (((((I 44 j_2) &&& ((I 18 k) ^^^ (-1 : Int32))) = 0 → (R (some (.int 0)) (am_mk I L, 0, 0))) ∧ (¬ ((I 44 j_2) &&& ((I 18 k) ^^^ (-1 : Int32))) = 0 → (R (some (.int 1)) (am_mk I L, 0, 0)))))))) : am_Run am_X0 (am_meth d) 97 R 0 [some (.ref 99), some (.int (nI k)), some (.int (nI s))] [] (am_mk I L, 0, 0) := by
  refine ar_aload_n (j := 0) (q := 1) rfl rfl rfl rfl ?_
  refine ar_getf (v := .ref 42) (q := 4) rfl rfl mk_99 rfl rfl ?_
  refine ar_getf (v := .ref 44) (q := 7) rfl rfl mk_42 rfl rfl ?_
  refine ar_aload_n (j := 0) (q := 8) rfl rfl rfl rfl ?_
  refine ar_getf (v := .ref 66) (q := 11) rfl rfl mk_99 rfl rfl ?_
  refine ar_getf (v := .ref 67) (q := 14) rfl rfl mk_66 rfl rfl ?_
  refine ar_iload_n (j := 2) (q := 15) rfl rfl rfl rfl ?_
  obtain ⟨hx_1, h⟩ := h
  refine ar_iald (v := I 67 s) (q := 16) rfl mk_67 (am_inE rfl hx_1 (by decide)) (am_clE rfl hx_1 (by decide)) rfl ?_
  obtain ⟨j_2, hx_3, hi_4, h⟩ := h
  refine ar_iald (v := I 44 j_2) (q := 17) rfl mk_44 (am_inE hi_4 hx_3 (by decide)) (am_clE hi_4 hx_3 (by decide)) rfl ?_
  refine ar_aload_n (j := 0) (q := 18) rfl rfl rfl rfl ?_
  refine ar_getf (v := .ref 16) (q := 21) rfl rfl mk_99 rfl rfl ?_
  refine ar_getf (v := .ref 18) (q := 24) rfl rfl mk_16 rfl rfl ?_
  refine ar_iload_n (j := 1) (q := 25) rfl rfl rfl rfl ?_
  obtain ⟨hx_5, h⟩ := h
  refine ar_iald (v := I 18 k) (q := 26) rfl mk_18 (am_inE rfl hx_5 (by decide)) (am_clE rfl hx_5 (by decide)) rfl ?_
  refine ar_iconst (v := (-1 : Int32)) (q := 27) rfl rfl rfl ?_
  refine ar_ib (i := .ixor) (z := (I 18 k) ^^^ (-1 : Int32)) (q := 28) rfl rfl rfl rfl rfl ?_
  refine ar_ib (i := .iand) (z := (I 44 j_2) &&& ((I 18 k) ^^^ (-1 : Int32))) (q := 29) rfl rfl rfl rfl rfl ?_
  obtain ⟨hA, hB⟩ := h
  refine ar_b0 am_c_eq (t := 36) (q := 32) rfl rfl rfl (fun c_6 => ?_) (fun c_6 => ?_)
  · have h := hA c_6
    clear hA hB
    refine ar_iconst (v := 0) (q := 37) rfl rfl rfl ?_
    exact ar_zret rfl rfl (Or.inl rfl) h
  · have h := hB c_6
    clear hA hB
    refine ar_iconst (v := 1) (q := 33) rfl rfl rfl ?_
    refine ar_goto (t := 37) rfl rfl ?_
    exact ar_zret rfl rfl (Or.inr rfl) h
theorem r_Rules_addToMine_0 {d : Nat} {R : am_R} {I : Nat → Nat → Int32} {L : Nat → Nat → Int64} {x : Int32} (h : (((I 99 8) < 120 → (∀ I_2 : Nat → Nat → Int32, I_2 = va_up I 99 (upd (I 99) 8 ((I 99 8) + 1)) → (∃ j_4 : Nat, j_4 < 120 ∧ I 99 8 = nI j_4 ∧ (∀ I_7 : Nat → Nat → Int32, I_7 = va_up I_2 101 (upd (I_2 101) j_4 x) → (R none (am_mk I_7 L, 0, 0)))))) ∧ (¬ (I 99 8) < 120 → (R none (am_mk I L, 0, 0))))) : am_Run am_X0 (am_meth d) 94 R 0 [some (.ref 99), some (.int x)] [] (am_mk I L, 0, 0) := by
  refine ar_aload_n (j := 0) (q := 1) rfl rfl rfl rfl ?_
  refine ar_getf (v := .int (I 99 8)) (q := 4) rfl rfl mk_99 rfl rfl ?_
  refine ar_aload_n (j := 0) (q := 5) rfl rfl rfl rfl ?_
  refine ar_getf (v := .ref 101) (q := 8) rfl rfl mk_99 rfl rfl ?_
  refine ar_st (i := .arraylength) (n := 1) (st' := [.int 120, .int (I 99 8)]) (q := 9) rfl rfl rfl rfl ?_
  obtain ⟨hA, hB⟩ := h
  refine ar_br am_d_ge (t := 29) (q := 12) rfl rfl rfl (fun c_1 => ?_) (fun c_1 => ?_)
  · have h := hB c_1
    clear hA hB
    exact ar_vret rfl rfl h
  · have c_1 := Classical.not_not.mp c_1
    have h := hA c_1
    clear hA hB
    refine ar_aload_n (j := 0) (q := 13) rfl rfl rfl rfl ?_
    refine ar_getf (v := .ref 101) (q := 16) rfl rfl mk_99 rfl rfl ?_
    refine ar_aload_n (j := 0) (q := 17) rfl rfl rfl rfl ?_
    refine ar_st (i := .dup) (n := 1) (st' := [.ref 99, .ref 99, .ref 101]) (q := 18) rfl rfl rfl rfl ?_
    refine ar_getf (v := .int (I 99 8)) (q := 21) rfl rfl mk_99 rfl rfl ?_
    refine ar_st (i := .dup_x1) (n := 1) (st' := [.int (I 99 8), .ref 99, .int (I 99 8), .ref 101]) (q := 22) rfl rfl rfl rfl ?_
    refine ar_iconst (v := 1) (q := 23) rfl rfl rfl ?_
    refine ar_ib (i := .iadd) (z := (I 99 8) + 1) (q := 24) rfl rfl rfl rfl rfl ?_
    obtain ⟨I_2, hI_3⟩ : ∃ z : Nat → Nat → Int32, z = va_up I 99 (upd (I 99) 8 ((I 99 8) + 1)) := ⟨_, rfl⟩
    have h := h I_2 hI_3
    refine ar_putf (hp2 := am_mk I_2 L) (q := 27) rfl rfl mk_99 rfl (by rw [hI_3]; exact mk_p99_8) rfl ?_
    refine ar_iload_n (j := 1) (q := 28) rfl rfl rfl rfl ?_
    obtain ⟨j_4, hx_5, hi_6, h⟩ := h
    obtain ⟨I_7, hI_8⟩ : ∃ z : Nat → Nat → Int32, z = va_up I_2 101 (upd (I_2 101) j_4 x) := ⟨_, rfl⟩
    have h := h I_7 hI_8
    refine ar_iast (hp2 := am_mk I_7 L) (q := 29) rfl mk_101 (am_inE hi_6 hx_5 (by decide)) (by rw [am_clT hi_6 hx_5 (by decide), hI_8]; exact mk_s101) rfl ?_
    exact ar_vret rfl rfl h
theorem r_Rules_dropLastOfMine_0 {d : Nat} {R : am_R} {I : Nat → Nat → Int32} {L : Nat → Nat → Int64}  (h : (((I 99 8) ≤ 0 → (R none (am_mk I L, 0, 0))) ∧ (¬ (I 99 8) ≤ 0 → (∀ I_2 : Nat → Nat → Int32, I_2 = va_up I 99 (upd (I 99) 8 ((I 99 8) - 1)) → (R none (am_mk I_2 L, 0, 0)))))) : am_Run am_X0 (am_meth d) 112 R 0 [some (.ref 99)] [] (am_mk I L, 0, 0) := by
  refine ar_aload_n (j := 0) (q := 1) rfl rfl rfl rfl ?_
  refine ar_getf (v := .int (I 99 8)) (q := 4) rfl rfl mk_99 rfl rfl ?_
  obtain ⟨hA, hB⟩ := h
  refine ar_b0 am_c_le (t := 17) (q := 7) rfl rfl rfl (fun c_1 => ?_) (fun c_1 => ?_)
  · have h := hA c_1
    clear hA hB
    exact ar_vret rfl rfl h
  · have h := hB c_1
    clear hA hB
    refine ar_aload_n (j := 0) (q := 8) rfl rfl rfl rfl ?_
    refine ar_st (i := .dup) (n := 1) (st' := [.ref 99, .ref 99]) (q := 9) rfl rfl rfl rfl ?_
    refine ar_getf (v := .int (I 99 8)) (q := 12) rfl rfl mk_99 rfl rfl ?_
    refine ar_iconst (v := 1) (q := 13) rfl rfl rfl ?_
    refine ar_ib (i := .isub) (z := (I 99 8) - 1) (q := 14) rfl rfl rfl rfl rfl ?_
    obtain ⟨I_2, hI_3⟩ : ∃ z : Nat → Nat → Int32, z = va_up I 99 (upd (I 99) 8 ((I 99 8) - 1)) := ⟨_, rfl⟩
    have h := h I_2 hI_3
    refine ar_putf (hp2 := am_mk I_2 L) (q := 17) rfl rfl mk_99 rfl (by rw [hI_3]; exact mk_p99_8) rfl ?_
    exact ar_vret rfl rfl h
