theorem r_Towns_hasTown_0 {d : Nat} {R : am_R} {I : Nat → Nat → Int32} {L : Nat → Nat → Int64} {x : Int32} (h : ((x < 0 → (R (some (.int 0)) (am_mk I L, 0, 0))) ∧ (¬ x < 0 → (((x < 10 → (R (some (.int 1)) (am_mk I L, 0, 0))) ∧ (¬ x < 10 → (R (some (.int 0)) (am_mk I L, 0, 0)))))))) : am_Run am_X0 (am_meth d) 146 R 0 [some (.ref 2), some (.int x)] [] (am_mk I L, 0, 0) := by
  refine ar_iload_n (j := 1) (q := 1) rfl rfl rfl rfl ?_
  obtain ⟨hA, hB⟩ := h
  refine ar_b0 am_c_lt (t := 14) (q := 4) rfl rfl rfl (fun c_1 => ?_) (fun c_1 => ?_)
  · have h := hA c_1
    clear hA hB
    refine ar_iconst (v := 0) (q := 15) rfl rfl rfl ?_
    exact ar_zret rfl rfl (Or.inl rfl) h
  · have h := hB c_1
    clear hA hB
    refine ar_iload_n (j := 1) (q := 5) rfl rfl rfl rfl ?_
    refine ar_bipush (v := 10) (q := 7) rfl rfl rfl ?_
    obtain ⟨hA, hB⟩ := h
    refine ar_br am_d_ge (t := 14) (q := 10) rfl rfl rfl (fun c_2 => ?_) (fun c_2 => ?_)
    · have h := hB c_2
      clear hA hB
      refine ar_iconst (v := 0) (q := 15) rfl rfl rfl ?_
      exact ar_zret rfl rfl (Or.inl rfl) h
    · have c_2 := Classical.not_not.mp c_2
      have h := hA c_2
      clear hA hB
      refine ar_iconst (v := 1) (q := 11) rfl rfl rfl ?_
      refine ar_goto (t := 15) rfl rfl ?_
      exact ar_zret rfl rfl (Or.inr rfl) h
theorem r_Towns_hasLand_0 {d : Nat} {R : am_R} {I : Nat → Nat → Int32} {L : Nat → Nat → Int64} {x : Int32} (h : ((x < 0 → (R (some (.int 0)) (am_mk I L, 0, 0))) ∧ (¬ x < 0 → (((x < 5 → (R (some (.int 1)) (am_mk I L, 0, 0))) ∧ (¬ x < 5 → (R (some (.int 0)) (am_mk I L, 0, 0)))))))) : am_Run am_X0 (am_meth d) 147 R 0 [some (.ref 2), some (.int x)] [] (am_mk I L, 0, 0) := by
  refine ar_iload_n (j := 1) (q := 1) rfl rfl rfl rfl ?_
  obtain ⟨hA, hB⟩ := h
  refine ar_b0 am_c_lt (t := 13) (q := 4) rfl rfl rfl (fun c_1 => ?_) (fun c_1 => ?_)
  · have h := hA c_1
    clear hA hB
    refine ar_iconst (v := 0) (q := 14) rfl rfl rfl ?_
    exact ar_zret rfl rfl (Or.inl rfl) h
  · have h := hB c_1
    clear hA hB
    refine ar_iload_n (j := 1) (q := 5) rfl rfl rfl rfl ?_
    refine ar_iconst (v := 5) (q := 6) rfl rfl rfl ?_
    obtain ⟨hA, hB⟩ := h
    refine ar_br am_d_ge (t := 13) (q := 9) rfl rfl rfl (fun c_2 => ?_) (fun c_2 => ?_)
    · have h := hB c_2
      clear hA hB
      refine ar_iconst (v := 0) (q := 14) rfl rfl rfl ?_
      exact ar_zret rfl rfl (Or.inl rfl) h
    · have c_2 := Classical.not_not.mp c_2
      have h := hA c_2
      clear hA hB
      refine ar_iconst (v := 1) (q := 10) rfl rfl rfl ?_
      refine ar_goto (t := 14) rfl rfl ?_
      exact ar_zret rfl rfl (Or.inr rfl) h
theorem r_Towns_daysBetween_0 {d : Nat} {R : am_R} {I : Nat → Nat → Int32} {L : Nat → Nat → Int64} {a : Nat} {b : Nat} (h : a < 10 ∧ (b < 10 ∧ (R (some (.int (((I (6 + a) b) + 23) / 24))) (am_mk I L, 0, 0)))) : am_Run am_X0 (am_meth d) 148 R 0 [some (.ref 2), some (.int (nI a)), some (.int (nI b))] [] (am_mk I L, 0, 0) := by
  refine ar_aload_n (j := 0) (q := 1) rfl rfl rfl rfl ?_
  refine ar_getf (v := .ref 5) (q := 4) rfl rfl mk_2 rfl rfl ?_
  refine ar_iload_n (j := 1) (q := 5) rfl rfl rfl rfl ?_
  obtain ⟨hx_1, h⟩ := h
  refine ar_aald (c2 := 6 + a) (q := 6) rfl mk_5 (am_inE rfl hx_1 (by decide)) (congrArg (fun z => some (6 + z)) (am_clT rfl hx_1 (by decide))) rfl ?_
  refine ar_iload_n (j := 2) (q := 7) rfl rfl rfl rfl ?_
  obtain ⟨hx_2, h⟩ := h
  refine ar_iald (v := I (6 + a) b) (q := 8) rfl (mk_g5 hx_1) (am_inE rfl hx_2 (by decide)) (am_clE rfl hx_2 (by decide)) rfl ?_
  refine ar_bipush (v := 23) (q := 10) rfl rfl rfl ?_
  refine ar_ib (i := .iadd) (z := (I (6 + a) b) + 23) (q := 11) rfl rfl rfl rfl rfl ?_
  refine ar_bipush (v := 24) (q := 13) rfl rfl rfl ?_
  refine ar_idiv (q := 14) rfl (by decide) rfl ?_
  exact ar_iret rfl rfl h
theorem r_Keepers_has_0 {d : Nat} {R : am_R} {I : Nat → Nat → Int32} {L : Nat → Nat → Int64} {x : Int32} (h : ((x < 0 → (R (some (.int 0)) (am_mk I L, 0, 0))) ∧ (¬ x < 0 → (((x < (I 16 0) → (R (some (.int 1)) (am_mk I L, 0, 0))) ∧ (¬ x < (I 16 0) → (R (some (.int 0)) (am_mk I L, 0, 0)))))))) : am_Run am_X0 (am_meth d) 54 R 0 [some (.ref 16), some (.int x)] [] (am_mk I L, 0, 0) := by
  refine ar_iload_n (j := 1) (q := 1) rfl rfl rfl rfl ?_
  obtain ⟨hA, hB⟩ := h
  refine ar_b0 am_c_lt (t := 16) (q := 4) rfl rfl rfl (fun c_1 => ?_) (fun c_1 => ?_)
  · have h := hA c_1
    clear hA hB
    refine ar_iconst (v := 0) (q := 17) rfl rfl rfl ?_
    exact ar_zret rfl rfl (Or.inl rfl) h
  · have h := hB c_1
    clear hA hB
    refine ar_iload_n (j := 1) (q := 5) rfl rfl rfl rfl ?_
    refine ar_aload_n (j := 0) (q := 6) rfl rfl rfl rfl ?_
    refine ar_getf (v := .int (I 16 0)) (q := 9) rfl rfl mk_16 rfl rfl ?_
    obtain ⟨hA, hB⟩ := h
    refine ar_br am_d_ge (t := 16) (q := 12) rfl rfl rfl (fun c_2 => ?_) (fun c_2 => ?_)
    · have h := hB c_2
      clear hA hB
      refine ar_iconst (v := 0) (q := 17) rfl rfl rfl ?_
      exact ar_zret rfl rfl (Or.inl rfl) h
    · have c_2 := Classical.not_not.mp c_2
      have h := hA c_2
      clear hA hB
      refine ar_iconst (v := 1) (q := 13) rfl rfl rfl ?_
      refine ar_goto (t := 17) rfl rfl ?_
      exact ar_zret rfl rfl (Or.inr rfl) h
theorem r_Keepers_add_0 {d : Nat} {R : am_R} {I : Nat → Nat → Int32} {L : Nat → Nat → Int64} {a : Int32} {b : Int32} {c : Int32} {e : Int32} (h : ∀ I_1 : Nat → Nat → Int32, I_1 = va_up I 16 (upd (I 16) 0 ((I 16 0) + 1)) → (∃ j_3 : Nat, j_3 < 20 ∧ I 16 0 = nI j_3 ∧ (∀ I_6 : Nat → Nat → Int32, I_6 = va_up I_1 17 (upd (I_1 17) j_3 a) → (∀ I_8 : Nat → Nat → Int32, I_8 = va_up I_6 18 (upd (I_6 18) j_3 b) → (∀ I_10 : Nat → Nat → Int32, I_10 = va_up I_8 19 (upd (I_8 19) j_3 c) → (∀ I_12 : Nat → Nat → Int32, I_12 = va_up I_10 20 (upd (I_10 20) j_3 e) → (R (some (.int (I 16 0))) (am_mk I_12 L, 0, 0)))))))) : am_Run am_X0 (am_meth d) 53 R 0 [some (.ref 16), some (.int a), some (.int b), some (.int c), some (.int e), none] [] (am_mk I L, 0, 0) := by
  refine ar_aload_n (j := 0) (q := 1) rfl rfl rfl rfl ?_
  refine ar_st (i := .dup) (n := 1) (st' := [.ref 16, .ref 16]) (q := 2) rfl rfl rfl rfl ?_
  refine ar_getf (v := .int (I 16 0)) (q := 5) rfl rfl mk_16 rfl rfl ?_
  refine ar_st (i := .dup_x1) (n := 1) (st' := [.int (I 16 0), .ref 16, .int (I 16 0)]) (q := 6) rfl rfl rfl rfl ?_
  refine ar_iconst (v := 1) (q := 7) rfl rfl rfl ?_
  refine ar_ib (i := .iadd) (z := (I 16 0) + 1) (q := 8) rfl rfl rfl rfl rfl ?_
  obtain ⟨I_1, hI_2⟩ : ∃ z : Nat → Nat → Int32, z = va_up I 16 (upd (I 16) 0 ((I 16 0) + 1)) := ⟨_, rfl⟩
  have h := h I_1 hI_2
  refine ar_putf (hp2 := am_mk I_1 L) (q := 11) rfl rfl mk_16 rfl (by rw [hI_2]; exact mk_p16_0) rfl ?_
  refine ar_istore (ls' := [some (.ref 16), some (.int a), some (.int b), some (.int c), some (.int e), some (.int (I 16 0))]) (q := 13) rfl rfl rfl rfl ?_
  refine ar_aload_n (j := 0) (q := 14) rfl rfl rfl rfl ?_
  refine ar_getf (v := .ref 17) (q := 17) rfl rfl mk_16 rfl rfl ?_
  refine ar_iload (q := 19) rfl rfl rfl ?_
  refine ar_iload_n (j := 1) (q := 20) rfl rfl rfl rfl ?_
  obtain ⟨j_3, hx_4, hi_5, h⟩ := h
  obtain ⟨I_6, hI_7⟩ : ∃ z : Nat → Nat → Int32, z = va_up I_1 17 (upd (I_1 17) j_3 a) := ⟨_, rfl⟩
  have h := h I_6 hI_7
  refine ar_iast (hp2 := am_mk I_6 L) (q := 21) rfl mk_17 (am_inE hi_5 hx_4 (by decide)) (by rw [am_clT hi_5 hx_4 (by decide), hI_7]; exact mk_s17) rfl ?_
  refine ar_aload_n (j := 0) (q := 22) rfl rfl rfl rfl ?_
  refine ar_getf (v := .ref 18) (q := 25) rfl rfl mk_16 rfl rfl ?_
  refine ar_iload (q := 27) rfl rfl rfl ?_
  refine ar_iload_n (j := 2) (q := 28) rfl rfl rfl rfl ?_
  obtain ⟨I_8, hI_9⟩ : ∃ z : Nat → Nat → Int32, z = va_up I_6 18 (upd (I_6 18) j_3 b) := ⟨_, rfl⟩
  have h := h I_8 hI_9
  refine ar_iast (hp2 := am_mk I_8 L) (q := 29) rfl mk_18 (am_inE hi_5 hx_4 (by decide)) (by rw [am_clT hi_5 hx_4 (by decide), hI_9]; exact mk_s18) rfl ?_
  refine ar_aload_n (j := 0) (q := 30) rfl rfl rfl rfl ?_
  refine ar_getf (v := .ref 19) (q := 33) rfl rfl mk_16 rfl rfl ?_
  refine ar_iload (q := 35) rfl rfl rfl ?_
  refine ar_iload_n (j := 3) (q := 36) rfl rfl rfl rfl ?_
  obtain ⟨I_10, hI_11⟩ : ∃ z : Nat → Nat → Int32, z = va_up I_8 19 (upd (I_8 19) j_3 c) := ⟨_, rfl⟩
  have h := h I_10 hI_11
  refine ar_iast (hp2 := am_mk I_10 L) (q := 37) rfl mk_19 (am_inE hi_5 hx_4 (by decide)) (by rw [am_clT hi_5 hx_4 (by decide), hI_11]; exact mk_s19) rfl ?_
  refine ar_aload_n (j := 0) (q := 38) rfl rfl rfl rfl ?_
  refine ar_getf (v := .ref 20) (q := 41) rfl rfl mk_16 rfl rfl ?_
  refine ar_iload (q := 43) rfl rfl rfl ?_
  refine ar_iload (q := 45) rfl rfl rfl ?_
  obtain ⟨I_12, hI_13⟩ : ∃ z : Nat → Nat → Int32, z = va_up I_10 20 (upd (I_10 20) j_3 e) := ⟨_, rfl⟩
  have h := h I_12 hI_13
  refine ar_iast (hp2 := am_mk I_12 L) (q := 46) rfl mk_20 (am_inE hi_5 hx_4 (by decide)) (by rw [am_clT hi_5 hx_4 (by decide), hI_13]; exact mk_s20) rfl ?_
  refine ar_iload (q := 48) rfl rfl rfl ?_
  exact ar_iret rfl rfl h
theorem r_Houses_has_0 {d : Nat} {R : am_R} {I : Nat → Nat → Int32} {L : Nat → Nat → Int64} {x : Int32} (h : ((x < 0 → (R (some (.int 0)) (am_mk I L, 0, 0))) ∧ (¬ x < 0 → (((x < (I 42 0) → (R (some (.int 1)) (am_mk I L, 0, 0))) ∧ (¬ x < (I 42 0) → (R (some (.int 0)) (am_mk I L, 0, 0)))))))) : am_Run am_X0 (am_meth d) 50 R 0 [some (.ref 42), some (.int x)] [] (am_mk I L, 0, 0) := by
  refine ar_iload_n (j := 1) (q := 1) rfl rfl rfl rfl ?_
  obtain ⟨hA, hB⟩ := h
  refine ar_b0 am_c_lt (t := 16) (q := 4) rfl rfl rfl (fun c_1 => ?_) (fun c_1 => ?_)
  · have h := hA c_1
    clear hA hB
    refine ar_iconst (v := 0) (q := 17) rfl rfl rfl ?_
    exact ar_zret rfl rfl (Or.inl rfl) h
  · have h := hB c_1
    clear hA hB
    refine ar_iload_n (j := 1) (q := 5) rfl rfl rfl rfl ?_
    refine ar_aload_n (j := 0) (q := 6) rfl rfl rfl rfl ?_
    refine ar_getf (v := .int (I 42 0)) (q := 9) rfl rfl mk_42 rfl rfl ?_
    obtain ⟨hA, hB⟩ := h
    refine ar_br am_d_ge (t := 16) (q := 12) rfl rfl rfl (fun c_2 => ?_) (fun c_2 => ?_)
    · have h := hB c_2
      clear hA hB
      refine ar_iconst (v := 0) (q := 17) rfl rfl rfl ?_
      exact ar_zret rfl rfl (Or.inl rfl) h
    · have c_2 := Classical.not_not.mp c_2
      have h := hA c_2
      clear hA hB
      refine ar_iconst (v := 1) (q := 13) rfl rfl rfl ?_
      refine ar_goto (t := 17) rfl rfl ?_
      exact ar_zret rfl rfl (Or.inr rfl) h
theorem r_Houses_add_0 {d : Nat} {R : am_R} {I : Nat → Nat → Int32} {L : Nat → Nat → Int64} {a : Int32} {b : Int32} (h : ∀ I_1 : Nat → Nat → Int32, I_1 = va_up I 42 (upd (I 42) 0 ((I 42 0) + 1)) → (∃ j_3 : Nat, j_3 < 20 ∧ I 42 0 = nI j_3 ∧ (∀ I_6 : Nat → Nat → Int32, I_6 = va_up I_1 43 (upd (I_1 43) j_3 a) → (∀ I_8 : Nat → Nat → Int32, I_8 = va_up I_6 44 (upd (I_6 44) j_3 b) → (R (some (.int (I 42 0))) (am_mk I_8 L, 0, 0)))))) : am_Run am_X0 (am_meth d) 49 R 0 [some (.ref 42), some (.int a), some (.int b), none] [] (am_mk I L, 0, 0) := by
  refine ar_aload_n (j := 0) (q := 1) rfl rfl rfl rfl ?_
  refine ar_st (i := .dup) (n := 1) (st' := [.ref 42, .ref 42]) (q := 2) rfl rfl rfl rfl ?_
  refine ar_getf (v := .int (I 42 0)) (q := 5) rfl rfl mk_42 rfl rfl ?_
  refine ar_st (i := .dup_x1) (n := 1) (st' := [.int (I 42 0), .ref 42, .int (I 42 0)]) (q := 6) rfl rfl rfl rfl ?_
  refine ar_iconst (v := 1) (q := 7) rfl rfl rfl ?_
  refine ar_ib (i := .iadd) (z := (I 42 0) + 1) (q := 8) rfl rfl rfl rfl rfl ?_
  obtain ⟨I_1, hI_2⟩ : ∃ z : Nat → Nat → Int32, z = va_up I 42 (upd (I 42) 0 ((I 42 0) + 1)) := ⟨_, rfl⟩
  have h := h I_1 hI_2
  refine ar_putf (hp2 := am_mk I_1 L) (q := 11) rfl rfl mk_42 rfl (by rw [hI_2]; exact mk_p42_0) rfl ?_
  refine ar_istore_n (j := 3) (ls' := [some (.ref 42), some (.int a), some (.int b), some (.int (I 42 0))]) (q := 12) rfl rfl rfl rfl rfl ?_
  refine ar_aload_n (j := 0) (q := 13) rfl rfl rfl rfl ?_
  refine ar_getf (v := .ref 43) (q := 16) rfl rfl mk_42 rfl rfl ?_
  refine ar_iload_n (j := 3) (q := 17) rfl rfl rfl rfl ?_
  refine ar_iload_n (j := 1) (q := 18) rfl rfl rfl rfl ?_
  obtain ⟨j_3, hx_4, hi_5, h⟩ := h
  obtain ⟨I_6, hI_7⟩ : ∃ z : Nat → Nat → Int32, z = va_up I_1 43 (upd (I_1 43) j_3 a) := ⟨_, rfl⟩
  have h := h I_6 hI_7
  refine ar_iast (hp2 := am_mk I_6 L) (q := 19) rfl mk_43 (am_inE hi_5 hx_4 (by decide)) (by rw [am_clT hi_5 hx_4 (by decide), hI_7]; exact mk_s43) rfl ?_
  refine ar_aload_n (j := 0) (q := 20) rfl rfl rfl rfl ?_
  refine ar_getf (v := .ref 44) (q := 23) rfl rfl mk_42 rfl rfl ?_
  refine ar_iload_n (j := 3) (q := 24) rfl rfl rfl rfl ?_
  refine ar_iload_n (j := 2) (q := 25) rfl rfl rfl rfl ?_
  obtain ⟨I_8, hI_9⟩ : ∃ z : Nat → Nat → Int32, z = va_up I_6 44 (upd (I_6 44) j_3 b) := ⟨_, rfl⟩
  have h := h I_8 hI_9
  refine ar_iast (hp2 := am_mk I_8 L) (q := 26) rfl mk_44 (am_inE hi_5 hx_4 (by decide)) (by rw [am_clT hi_5 hx_4 (by decide), hI_9]; exact mk_s44) rfl ?_
  refine ar_iload_n (j := 3) (q := 27) rfl rfl rfl rfl ?_
  exact ar_iret rfl rfl h
theorem r_Stays_has_0 {d : Nat} {R : am_R} {I : Nat → Nat → Int32} {L : Nat → Nat → Int64} {x : Int32} (h : ((x < 0 → (R (some (.int 0)) (am_mk I L, 0, 0))) ∧ (¬ x < 0 → (((x < (I 66 1) → (R (some (.int 1)) (am_mk I L, 0, 0))) ∧ (¬ x < (I 66 1) → (R (some (.int 0)) (am_mk I L, 0, 0)))))))) : am_Run am_X0 (am_meth d) 118 R 0 [some (.ref 66), some (.int x)] [] (am_mk I L, 0, 0) := by
  refine ar_iload_n (j := 1) (q := 1) rfl rfl rfl rfl ?_
  obtain ⟨hA, hB⟩ := h
  refine ar_b0 am_c_lt (t := 16) (q := 4) rfl rfl rfl (fun c_1 => ?_) (fun c_1 => ?_)
  · have h := hA c_1
    clear hA hB
    refine ar_iconst (v := 0) (q := 17) rfl rfl rfl ?_
    exact ar_zret rfl rfl (Or.inl rfl) h
  · have h := hB c_1
    clear hA hB
    refine ar_iload_n (j := 1) (q := 5) rfl rfl rfl rfl ?_
    refine ar_aload_n (j := 0) (q := 6) rfl rfl rfl rfl ?_
    refine ar_getf (v := .int (I 66 1)) (q := 9) rfl rfl mk_66 rfl rfl ?_
    obtain ⟨hA, hB⟩ := h
    refine ar_br am_d_ge (t := 16) (q := 12) rfl rfl rfl (fun c_2 => ?_) (fun c_2 => ?_)
    · have h := hB c_2
      clear hA hB
      refine ar_iconst (v := 0) (q := 17) rfl rfl rfl ?_
      exact ar_zret rfl rfl (Or.inl rfl) h
    · have c_2 := Classical.not_not.mp c_2
      have h := hA c_2
      clear hA hB
      refine ar_iconst (v := 1) (q := 13) rfl rfl rfl ?_
      refine ar_goto (t := 17) rfl rfl ?_
      exact ar_zret rfl rfl (Or.inr rfl) h
theorem r_Stays_add_0 {d : Nat} {R : am_R} {I : Nat → Nat → Int32} {L : Nat → Nat → Int64} {a : Int32} {b : Int32} {c : Int32} (h : ∀ I_1 : Nat → Nat → Int32, I_1 = va_up I 66 (upd (I 66) 1 ((I 66 1) + 1)) → (∃ j_3 : Nat, j_3 < 60 ∧ I 66 1 = nI j_3 ∧ (∀ I_6 : Nat → Nat → Int32, I_6 = va_up I_1 67 (upd (I_1 67) j_3 a) → (∀ I_8 : Nat → Nat → Int32, I_8 = va_up I_6 68 (upd (I_6 68) j_3 b) → (∀ I_10 : Nat → Nat → Int32, I_10 = va_up I_8 69 (upd (I_8 69) j_3 c) → (R (some (.int (I 66 1))) (am_mk I_10 L, 0, 0))))))) : am_Run am_X0 (am_meth d) 117 R 0 [some (.ref 66), some (.int a), some (.int b), some (.int c), none] [] (am_mk I L, 0, 0) := by
  refine ar_aload_n (j := 0) (q := 1) rfl rfl rfl rfl ?_
  refine ar_st (i := .dup) (n := 1) (st' := [.ref 66, .ref 66]) (q := 2) rfl rfl rfl rfl ?_
  refine ar_getf (v := .int (I 66 1)) (q := 5) rfl rfl mk_66 rfl rfl ?_
  refine ar_st (i := .dup_x1) (n := 1) (st' := [.int (I 66 1), .ref 66, .int (I 66 1)]) (q := 6) rfl rfl rfl rfl ?_
  refine ar_iconst (v := 1) (q := 7) rfl rfl rfl ?_
  refine ar_ib (i := .iadd) (z := (I 66 1) + 1) (q := 8) rfl rfl rfl rfl rfl ?_
  obtain ⟨I_1, hI_2⟩ : ∃ z : Nat → Nat → Int32, z = va_up I 66 (upd (I 66) 1 ((I 66 1) + 1)) := ⟨_, rfl⟩
  have h := h I_1 hI_2
  refine ar_putf (hp2 := am_mk I_1 L) (q := 11) rfl rfl mk_66 rfl (by rw [hI_2]; exact mk_p66_1) rfl ?_
  refine ar_istore (ls' := [some (.ref 66), some (.int a), some (.int b), some (.int c), some (.int (I 66 1))]) (q := 13) rfl rfl rfl rfl ?_
  refine ar_aload_n (j := 0) (q := 14) rfl rfl rfl rfl ?_
  refine ar_getf (v := .ref 67) (q := 17) rfl rfl mk_66 rfl rfl ?_
  refine ar_iload (q := 19) rfl rfl rfl ?_
  refine ar_iload_n (j := 1) (q := 20) rfl rfl rfl rfl ?_
  obtain ⟨j_3, hx_4, hi_5, h⟩ := h
  obtain ⟨I_6, hI_7⟩ : ∃ z : Nat → Nat → Int32, z = va_up I_1 67 (upd (I_1 67) j_3 a) := ⟨_, rfl⟩
  have h := h I_6 hI_7
  refine ar_iast (hp2 := am_mk I_6 L) (q := 21) rfl mk_67 (am_inE hi_5 hx_4 (by decide)) (by rw [am_clT hi_5 hx_4 (by decide), hI_7]; exact mk_s67) rfl ?_
  refine ar_aload_n (j := 0) (q := 22) rfl rfl rfl rfl ?_
  refine ar_getf (v := .ref 68) (q := 25) rfl rfl mk_66 rfl rfl ?_
  refine ar_iload (q := 27) rfl rfl rfl ?_
  refine ar_iload_n (j := 2) (q := 28) rfl rfl rfl rfl ?_
  obtain ⟨I_8, hI_9⟩ : ∃ z : Nat → Nat → Int32, z = va_up I_6 68 (upd (I_6 68) j_3 b) := ⟨_, rfl⟩
  have h := h I_8 hI_9
  refine ar_iast (hp2 := am_mk I_8 L) (q := 29) rfl mk_68 (am_inE hi_5 hx_4 (by decide)) (by rw [am_clT hi_5 hx_4 (by decide), hI_9]; exact mk_s68) rfl ?_
  refine ar_aload_n (j := 0) (q := 30) rfl rfl rfl rfl ?_
  refine ar_getf (v := .ref 69) (q := 33) rfl rfl mk_66 rfl rfl ?_
  refine ar_iload (q := 35) rfl rfl rfl ?_
  refine ar_iload_n (j := 3) (q := 36) rfl rfl rfl rfl ?_
  obtain ⟨I_10, hI_11⟩ : ∃ z : Nat → Nat → Int32, z = va_up I_8 69 (upd (I_8 69) j_3 c) := ⟨_, rfl⟩
  have h := h I_10 hI_11
  refine ar_iast (hp2 := am_mk I_10 L) (q := 37) rfl mk_69 (am_inE hi_5 hx_4 (by decide)) (by rw [am_clT hi_5 hx_4 (by decide), hI_11]; exact mk_s69) rfl ?_
  refine ar_iload (q := 39) rfl rfl rfl ?_
  exact ar_iret rfl rfl h
theorem r_Stays_isOver_0 {d : Nat} {R : am_R} {I : Nat → Nat → Int32} {L : Nat → Nat → Int64} {s : Nat} (h : s < 60 ∧ ((((I 69 s) < (I 66 0) → (R (some (.int 1)) (am_mk I L, 0, 0))) ∧ (¬ (I 69 s) < (I 66 0) → (R (some (.int 0)) (am_mk I L, 0, 0)))))) : am_Run am_X0 (am_meth d) 119 R 0 [some (.ref 66), some (.int (nI s))] [] (am_mk I L, 0, 0) := by
  refine ar_aload_n (j := 0) (q := 1) rfl rfl rfl rfl ?_
  refine ar_getf (v := .ref 69) (q := 4) rfl rfl mk_66 rfl rfl ?_
  refine ar_iload_n (j := 1) (q := 5) rfl rfl rfl rfl ?_
  obtain ⟨hx_1, h⟩ := h
  refine ar_iald (v := I 69 s) (q := 6) rfl mk_69 (am_inE rfl hx_1 (by decide)) (am_clE rfl hx_1 (by decide)) rfl ?_
  refine ar_aload_n (j := 0) (q := 7) rfl rfl rfl rfl ?_
  refine ar_getf (v := .int (I 66 0)) (q := 10) rfl rfl mk_66 rfl rfl ?_
  obtain ⟨hA, hB⟩ := h
  refine ar_br am_d_ge (t := 17) (q := 13) rfl rfl rfl (fun c_2 => ?_) (fun c_2 => ?_)
  · have h := hB c_2
    clear hA hB
    refine ar_iconst (v := 0) (q := 18) rfl rfl rfl ?_
    exact ar_zret rfl rfl (Or.inl rfl) h
  · have c_2 := Classical.not_not.mp c_2
    have h := hA c_2
    clear hA hB
    refine ar_iconst (v := 1) (q := 14) rfl rfl rfl ?_
    refine ar_goto (t := 18) rfl rfl ?_
    exact ar_zret rfl rfl (Or.inr rfl) h
theorem r_Stays_isTakenBy_0 {d : Nat} {R : am_R} {I : Nat → Nat → Int32} {L : Nat → Nat → Int64} {s : Nat} {w : Int32} (h : s < 60 ∧ ((((I 70 s) = 1 → ((((I 71 s) = w → (R (some (.int 1)) (am_mk I L, 0, 0))) ∧ (¬ (I 71 s) = w → (R (some (.int 0)) (am_mk I L, 0, 0)))))) ∧ (¬ (I 70 s) = 1 → (R (some (.int 0)) (am_mk I L, 0, 0)))))) : am_Run am_X0 (am_meth d) 120 R 0 [some (.ref 66), some (.int (nI s)), some (.int w)] [] (am_mk I L, 0, 0) := by
  refine ar_aload_n (j := 0) (q := 1) rfl rfl rfl rfl ?_
  refine ar_getf (v := .ref 70) (q := 4) rfl rfl mk_66 rfl rfl ?_
  refine ar_iload_n (j := 1) (q := 5) rfl rfl rfl rfl ?_
  obtain ⟨hx_1, h⟩ := h
  refine ar_iald (v := I 70 s) (q := 6) rfl mk_70 (am_inE rfl hx_1 (by decide)) (am_clE rfl hx_1 (by decide)) rfl ?_
  refine ar_iconst (v := 1) (q := 7) rfl rfl rfl ?_
  obtain ⟨hA, hB⟩ := h
  refine ar_br am_c_ne (t := 24) (q := 10) rfl rfl rfl (fun c_2 => ?_) (fun c_2 => ?_)
  · have h := hB c_2
    clear hA hB
    refine ar_iconst (v := 0) (q := 25) rfl rfl rfl ?_
    exact ar_zret rfl rfl (Or.inl rfl) h
  · have c_2 := Classical.not_not.mp c_2
    have h := hA c_2
    clear hA hB
    refine ar_aload_n (j := 0) (q := 11) rfl rfl rfl rfl ?_
    refine ar_getf (v := .ref 71) (q := 14) rfl rfl mk_66 rfl rfl ?_
    refine ar_iload_n (j := 1) (q := 15) rfl rfl rfl rfl ?_
    refine ar_iald (v := I 71 s) (q := 16) rfl mk_71 (am_inE rfl hx_1 (by decide)) (am_clE rfl hx_1 (by decide)) rfl ?_
    refine ar_iload_n (j := 2) (q := 17) rfl rfl rfl rfl ?_
    obtain ⟨hA, hB⟩ := h
    refine ar_br am_c_ne (t := 24) (q := 20) rfl rfl rfl (fun c_3 => ?_) (fun c_3 => ?_)
    · have h := hB c_3
      clear hA hB
      refine ar_iconst (v := 0) (q := 25) rfl rfl rfl ?_
      exact ar_zret rfl rfl (Or.inl rfl) h
    · have c_3 := Classical.not_not.mp c_3
      have h := hA c_3
      clear hA hB
      refine ar_iconst (v := 1) (q := 21) rfl rfl rfl ?_
      refine ar_goto (t := 25) rfl rfl ?_
      exact ar_zret rfl rfl (Or.inr rfl) h
theorem r_Stays_lengthOf_0 {d : Nat} {R : am_R} {I : Nat → Nat → Int32} {L : Nat → Nat → Int64} {s : Nat} (h : s < 60 ∧ (R (some (.int (((I 69 s) - (I 68 s)) + 1))) (am_mk I L, 0, 0))) : am_Run am_X0 (am_meth d) 121 R 0 [some (.ref 66), some (.int (nI s))] [] (am_mk I L, 0, 0) := by
  refine ar_aload_n (j := 0) (q := 1) rfl rfl rfl rfl ?_
  refine ar_getf (v := .ref 69) (q := 4) rfl rfl mk_66 rfl rfl ?_
  refine ar_iload_n (j := 1) (q := 5) rfl rfl rfl rfl ?_
  obtain ⟨hx_1, h⟩ := h
  refine ar_iald (v := I 69 s) (q := 6) rfl mk_69 (am_inE rfl hx_1 (by decide)) (am_clE rfl hx_1 (by decide)) rfl ?_
  refine ar_aload_n (j := 0) (q := 7) rfl rfl rfl rfl ?_
  refine ar_getf (v := .ref 68) (q := 10) rfl rfl mk_66 rfl rfl ?_
  refine ar_iload_n (j := 1) (q := 11) rfl rfl rfl rfl ?_
  refine ar_iald (v := I 68 s) (q := 12) rfl mk_68 (am_inE rfl hx_1 (by decide)) (am_clE rfl hx_1 (by decide)) rfl ?_
  refine ar_ib (i := .isub) (z := (I 69 s) - (I 68 s)) (q := 13) rfl rfl rfl rfl rfl ?_
  refine ar_iconst (v := 1) (q := 14) rfl rfl rfl ?_
  refine ar_ib (i := .iadd) (z := ((I 69 s) - (I 68 s)) + 1) (q := 15) rfl rfl rfl rfl rfl ?_
  exact ar_iret rfl rfl h
theorem r_Stays_daysWithin_0 {d : Nat} (hd : 1 ≤ d) {R : am_R} {I : Nat → Nat → Int32} {L : Nat → Nat → Int64} {s : Nat} {a : Int32} {b : Int32} (h : s < 60 ∧ (R (some (.int (if ((if b < I 69 s then b else I 69 s) - (if I 68 s < a then a else I 68 s)) + 1 < 0 then 0 else ((if b < I 69 s then b else I 69 s) - (if I 68 s < a then a else I 68 s)) + 1))) (am_mk I L, 0, 0))) : am_Run am_X0 (am_meth d) 116 R 0 [some (.ref 66), some (.int (nI s)), some (.int a), some (.int b), none, none] [] (am_mk I L, 0, 0) := by
  refine ar_aload_n (j := 0) (q := 1) rfl rfl rfl rfl ?_
  refine ar_getf (v := .ref 68) (q := 4) rfl rfl mk_66 rfl rfl ?_
  refine ar_iload_n (j := 1) (q := 5) rfl rfl rfl rfl ?_
  obtain ⟨hx_1, h⟩ := h
  refine ar_iald (v := I 68 s) (q := 6) rfl mk_68 (am_inE rfl hx_1 (by decide)) (am_clE rfl hx_1 (by decide)) rfl ?_
  refine ar_iload_n (j := 2) (q := 7) rfl rfl rfl rfl ?_
  refine ar_invs (as := [.int (I 68 s), .int a]) (rest := []) (b2 := (0, 0)) (b3 := (0, 0)) (q := 10) rfl rfl rfl rfl rfl rfl rfl rfl rfl ?_
  obtain ⟨d9, rfl⟩ : ∃ d9, d = d9 + 1 := ⟨d - 1, by omega⟩
  refine ar_max ?_
  show am_Run am_X0 (am_meth (d9 + 1)) 116 R 10 [some (.ref 66), some (.int (nI s)), some (.int a), some (.int b), none, none] [.int (if I 68 s < a then a else I 68 s)] (am_mk I L, 0, 0)
  generalize hd9 : d9 + 1 = d at *
  refine ar_istore (ls' := [some (.ref 66), some (.int (nI s)), some (.int a), some (.int b), some (.int (if I 68 s < a then a else I 68 s)), none]) (q := 12) rfl rfl rfl rfl ?_
  refine ar_aload_n (j := 0) (q := 13) rfl rfl rfl rfl ?_
  refine ar_getf (v := .ref 69) (q := 16) rfl rfl mk_66 rfl rfl ?_
  refine ar_iload_n (j := 1) (q := 17) rfl rfl rfl rfl ?_
  refine ar_iald (v := I 69 s) (q := 18) rfl mk_69 (am_inE rfl hx_1 (by decide)) (am_clE rfl hx_1 (by decide)) rfl ?_
  refine ar_iload_n (j := 3) (q := 19) rfl rfl rfl rfl ?_
  refine ar_invs (as := [.int (I 69 s), .int b]) (rest := []) (b2 := (0, 0)) (b3 := (0, 0)) (q := 22) rfl rfl rfl rfl rfl rfl rfl rfl rfl ?_
  obtain ⟨d9, rfl⟩ : ∃ d9, d = d9 + 1 := ⟨d - 1, by omega⟩
  refine ar_min ?_
  show am_Run am_X0 (am_meth (d9 + 1)) 116 R 22 [some (.ref 66), some (.int (nI s)), some (.int a), some (.int b), some (.int (if I 68 s < a then a else I 68 s)), none] [.int (if b < I 69 s then b else I 69 s)] (am_mk I L, 0, 0)
  generalize hd9 : d9 + 1 = d at *
  refine ar_istore (ls' := [some (.ref 66), some (.int (nI s)), some (.int a), some (.int b), some (.int (if I 68 s < a then a else I 68 s)), some (.int (if b < I 69 s then b else I 69 s))]) (q := 24) rfl rfl rfl rfl ?_
  refine ar_iload (q := 26) rfl rfl rfl ?_
  refine ar_iload (q := 28) rfl rfl rfl ?_
  refine ar_ib (i := .isub) (z := (if b < I 69 s then b else I 69 s) - (if I 68 s < a then a else I 68 s)) (q := 29) rfl rfl rfl rfl rfl ?_
  refine ar_iconst (v := 1) (q := 30) rfl rfl rfl ?_
  refine ar_ib (i := .iadd) (z := ((if b < I 69 s then b else I 69 s) - (if I 68 s < a then a else I 68 s)) + 1) (q := 31) rfl rfl rfl rfl rfl ?_
  refine ar_iconst (v := 0) (q := 32) rfl rfl rfl ?_
  refine ar_invs (as := [.int (((if b < I 69 s then b else I 69 s) - (if I 68 s < a then a else I 68 s)) + 1), .int 0]) (rest := []) (b2 := (0, 0)) (b3 := (0, 0)) (q := 35) rfl rfl rfl rfl rfl rfl rfl rfl rfl ?_
  obtain ⟨d9, rfl⟩ : ∃ d9, d = d9 + 1 := ⟨d - 1, by omega⟩
  refine ar_max ?_
  show am_Run am_X0 (am_meth (d9 + 1)) 116 R 35 [some (.ref 66), some (.int (nI s)), some (.int a), some (.int b), some (.int (if I 68 s < a then a else I 68 s)), some (.int (if b < I 69 s then b else I 69 s))] [.int (if ((if b < I 69 s then b else I 69 s) - (if I 68 s < a then a else I 68 s)) + 1 < 0 then 0 else ((if b < I 69 s then b else I 69 s) - (if I 68 s < a then a else I 68 s)) + 1)] (am_mk I L, 0, 0)
  generalize hd9 : d9 + 1 = d at *
  exact ar_iret rfl rfl h
theorem r_Stays_hasBothLists_0 {d : Nat} {R : am_R} {I : Nat → Nat → Int32} {L : Nat → Nat → Int64} {s : Nat} (h : s < 60 ∧ ((((I 72 s) = (-1 : Int32) → (R (some (.int 0)) (am_mk I L, 0, 0))) ∧ (¬ (I 72 s) = (-1 : Int32) → ((((I 73 s) = (-1 : Int32) → (R (some (.int 0)) (am_mk I L, 0, 0))) ∧ (¬ (I 73 s) = (-1 : Int32) → (R (some (.int 1)) (am_mk I L, 0, 0))))))))) : am_Run am_X0 (am_meth d) 122 R 0 [some (.ref 66), some (.int (nI s))] [] (am_mk I L, 0, 0) := by
  refine ar_aload_n (j := 0) (q := 1) rfl rfl rfl rfl ?_
  refine ar_getf (v := .ref 72) (q := 4) rfl rfl mk_66 rfl rfl ?_
  refine ar_iload_n (j := 1) (q := 5) rfl rfl rfl rfl ?_
  obtain ⟨hx_1, h⟩ := h
  refine ar_iald (v := I 72 s) (q := 6) rfl mk_72 (am_inE rfl hx_1 (by decide)) (am_clE rfl hx_1 (by decide)) rfl ?_
  refine ar_iconst (v := (-1 : Int32)) (q := 7) rfl rfl rfl ?_
  obtain ⟨hA, hB⟩ := h
  refine ar_br am_c_eq (t := 24) (q := 10) rfl rfl rfl (fun c_2 => ?_) (fun c_2 => ?_)
  · have h := hA c_2
    clear hA hB
    refine ar_iconst (v := 0) (q := 25) rfl rfl rfl ?_
    exact ar_zret rfl rfl (Or.inl rfl) h
  · have h := hB c_2
    clear hA hB
    refine ar_aload_n (j := 0) (q := 11) rfl rfl rfl rfl ?_
    refine ar_getf (v := .ref 73) (q := 14) rfl rfl mk_66 rfl rfl ?_
    refine ar_iload_n (j := 1) (q := 15) rfl rfl rfl rfl ?_
    refine ar_iald (v := I 73 s) (q := 16) rfl mk_73 (am_inE rfl hx_1 (by decide)) (am_clE rfl hx_1 (by decide)) rfl ?_
    refine ar_iconst (v := (-1 : Int32)) (q := 17) rfl rfl rfl ?_
    obtain ⟨hA, hB⟩ := h
    refine ar_br am_c_eq (t := 24) (q := 20) rfl rfl rfl (fun c_3 => ?_) (fun c_3 => ?_)
    · have h := hA c_3
      clear hA hB
      refine ar_iconst (v := 0) (q := 25) rfl rfl rfl ?_
      exact ar_zret rfl rfl (Or.inl rfl) h
    · have h := hB c_3
      clear hA hB
      refine ar_iconst (v := 1) (q := 21) rfl rfl rfl ?_
      refine ar_goto (t := 25) rfl rfl ?_
      exact ar_zret rfl rfl (Or.inr rfl) h
theorem r_Stays_itemsGone_0 {d : Nat} {R : am_R} {I : Nat → Nat → Int32} {L : Nat → Nat → Int64} {s : Nat} (h : s < 60 ∧ (R (some (.int ((I 72 s) &&& ((I 73 s) ^^^ (-1 : Int32))))) (am_mk I L, 0, 0))) : am_Run am_X0 (am_meth d) 123 R 0 [some (.ref 66), some (.int (nI s))] [] (am_mk I L, 0, 0) := by
  refine ar_aload_n (j := 0) (q := 1) rfl rfl rfl rfl ?_
  refine ar_getf (v := .ref 72) (q := 4) rfl rfl mk_66 rfl rfl ?_
  refine ar_iload_n (j := 1) (q := 5) rfl rfl rfl rfl ?_
  obtain ⟨hx_1, h⟩ := h
  refine ar_iald (v := I 72 s) (q := 6) rfl mk_72 (am_inE rfl hx_1 (by decide)) (am_clE rfl hx_1 (by decide)) rfl ?_
  refine ar_aload_n (j := 0) (q := 7) rfl rfl rfl rfl ?_
  refine ar_getf (v := .ref 73) (q := 10) rfl rfl mk_66 rfl rfl ?_
  refine ar_iload_n (j := 1) (q := 11) rfl rfl rfl rfl ?_
  refine ar_iald (v := I 73 s) (q := 12) rfl mk_73 (am_inE rfl hx_1 (by decide)) (am_clE rfl hx_1 (by decide)) rfl ?_
  refine ar_iconst (v := (-1 : Int32)) (q := 13) rfl rfl rfl ?_
  refine ar_ib (i := .ixor) (z := (I 73 s) ^^^ (-1 : Int32)) (q := 14) rfl rfl rfl rfl rfl ?_
  refine ar_ib (i := .iand) (z := (I 72 s) &&& ((I 73 s) ^^^ (-1 : Int32))) (q := 15) rfl rfl rfl rfl rfl ?_
  exact ar_iret rfl rfl h
theorem r_Row_hasRoomFor_tape_0 {d : Nat} {R : am_R} {I : Nat → Nat → Int32} {L : Nat → Nat → Int64} {x : Int32} (h : ((x ≤ (60 - (I 91 0)) → (R (some (.int 1)) (am_mk I L, 0, 0))) ∧ (¬ x ≤ (60 - (I 91 0)) → (R (some (.int 0)) (am_mk I L, 0, 0))))) : am_Run am_X0 (am_meth d) 86 R 0 [some (.ref 91), some (.int x)] [] (am_mk I L, 0, 0) := by
  refine ar_iload_n (j := 1) (q := 1) rfl rfl rfl rfl ?_
  refine ar_aload_n (j := 0) (q := 2) rfl rfl rfl rfl ?_
  refine ar_getf (v := .ref 92) (q := 5) rfl rfl mk_91 rfl rfl ?_
  refine ar_st (i := .arraylength) (n := 1) (st' := [.int 60, .int x]) (q := 6) rfl rfl rfl rfl ?_
  refine ar_aload_n (j := 0) (q := 7) rfl rfl rfl rfl ?_
  refine ar_getf (v := .int (I 91 0)) (q := 10) rfl rfl mk_91 rfl rfl ?_
  refine ar_ib (i := .isub) (z := 60 - (I 91 0)) (q := 11) rfl rfl rfl rfl rfl ?_
  obtain ⟨hA, hB⟩ := h
  refine ar_br am_d_gt (t := 18) (q := 14) rfl rfl rfl (fun c_1 => ?_) (fun c_1 => ?_)
  · have h := hB c_1
    clear hA hB
    refine ar_iconst (v := 0) (q := 19) rfl rfl rfl ?_
    exact ar_zret rfl rfl (Or.inl rfl) h
  · have c_1 := Classical.not_not.mp c_1
    have h := hA c_1
    clear hA hB
    refine ar_iconst (v := 1) (q := 15) rfl rfl rfl ?_
    refine ar_goto (t := 19) rfl rfl ?_
    exact ar_zret rfl rfl (Or.inr rfl) h
theorem r_Row_add_tape_0 {d : Nat} {R : am_R} {I : Nat → Nat → Int32} {L : Nat → Nat → Int64} {x : Int32} (h : (((I 91 0) < 60 → (∀ I_2 : Nat → Nat → Int32, I_2 = va_up I 91 (upd (I 91) 0 ((I 91 0) + 1)) → (∃ j_4 : Nat, j_4 < 60 ∧ I 91 0 = nI j_4 ∧ (∀ I_7 : Nat → Nat → Int32, I_7 = va_up I_2 92 (upd (I_2 92) j_4 x) → (R none (am_mk I_7 L, 0, 0)))))) ∧ (¬ (I 91 0) < 60 → (R none (am_mk I L, 0, 0))))) : am_Run am_X0 (am_meth d) 87 R 0 [some (.ref 91), some (.int x)] [] (am_mk I L, 0, 0) := by
  refine ar_aload_n (j := 0) (q := 1) rfl rfl rfl rfl ?_
  refine ar_getf (v := .int (I 91 0)) (q := 4) rfl rfl mk_91 rfl rfl ?_
  refine ar_aload_n (j := 0) (q := 5) rfl rfl rfl rfl ?_
  refine ar_getf (v := .ref 92) (q := 8) rfl rfl mk_91 rfl rfl ?_
  refine ar_st (i := .arraylength) (n := 1) (st' := [.int 60, .int (I 91 0)]) (q := 9) rfl rfl rfl rfl ?_
  obtain ⟨hA, hB⟩ := h
  refine ar_br am_d_ge (t := 29) (q := 12) rfl rfl rfl (fun c_1 => ?_) (fun c_1 => ?_)
  · have h := hB c_1
    clear hA hB
    exact ar_vret rfl rfl h
  · have c_1 := Classical.not_not.mp c_1
    have h := hA c_1
    clear hA hB
    refine ar_aload_n (j := 0) (q := 13) rfl rfl rfl rfl ?_
    refine ar_getf (v := .ref 92) (q := 16) rfl rfl mk_91 rfl rfl ?_
    refine ar_aload_n (j := 0) (q := 17) rfl rfl rfl rfl ?_
    refine ar_st (i := .dup) (n := 1) (st' := [.ref 91, .ref 91, .ref 92]) (q := 18) rfl rfl rfl rfl ?_
    refine ar_getf (v := .int (I 91 0)) (q := 21) rfl rfl mk_91 rfl rfl ?_
    refine ar_st (i := .dup_x1) (n := 1) (st' := [.int (I 91 0), .ref 91, .int (I 91 0), .ref 92]) (q := 22) rfl rfl rfl rfl ?_
    refine ar_iconst (v := 1) (q := 23) rfl rfl rfl ?_
    refine ar_ib (i := .iadd) (z := (I 91 0) + 1) (q := 24) rfl rfl rfl rfl rfl ?_
    obtain ⟨I_2, hI_3⟩ : ∃ z : Nat → Nat → Int32, z = va_up I 91 (upd (I 91) 0 ((I 91 0) + 1)) := ⟨_, rfl⟩
    have h := h I_2 hI_3
    refine ar_putf (hp2 := am_mk I_2 L) (q := 27) rfl rfl mk_91 rfl (by rw [hI_3]; exact mk_p91_0) rfl ?_
    refine ar_iload_n (j := 1) (q := 28) rfl rfl rfl rfl ?_
    obtain ⟨j_4, hx_5, hi_6, h⟩ := h
    obtain ⟨I_7, hI_8⟩ : ∃ z : Nat → Nat → Int32, z = va_up I_2 92 (upd (I_2 92) j_4 x) := ⟨_, rfl⟩
    have h := h I_7 hI_8
    refine ar_iast (hp2 := am_mk I_7 L) (q := 29) rfl mk_92 (am_inE hi_6 hx_5 (by decide)) (by rw [am_clT hi_6 hx_5 (by decide), hI_8]; exact mk_s92) rfl ?_
    exact ar_vret rfl rfl h
theorem r_Row_at_tape_0 {d : Nat} {R : am_R} {I : Nat → Nat → Int32} {L : Nat → Nat → Int64} {x : Int32} (h : ((x < 0 → (R (some (.int (-1 : Int32))) (am_mk I L, 0, 0))) ∧ (¬ x < 0 → (((x < (I 91 0) → (∃ j_3 : Nat, j_3 < 60 ∧ x = nI j_3 ∧ (R (some (.int (I 92 j_3))) (am_mk I L, 0, 0)))) ∧ (¬ x < (I 91 0) → (R (some (.int (-1 : Int32))) (am_mk I L, 0, 0)))))))) : am_Run am_X0 (am_meth d) 88 R 0 [some (.ref 91), some (.int x)] [] (am_mk I L, 0, 0) := by
  refine ar_iload_n (j := 1) (q := 1) rfl rfl rfl rfl ?_
  obtain ⟨hA, hB⟩ := h
  refine ar_b0 am_c_lt (t := 21) (q := 4) rfl rfl rfl (fun c_1 => ?_) (fun c_1 => ?_)
  · have h := hA c_1
    clear hA hB
    refine ar_iconst (v := (-1 : Int32)) (q := 22) rfl rfl rfl ?_
    exact ar_iret rfl rfl h
  · have h := hB c_1
    clear hA hB
    refine ar_iload_n (j := 1) (q := 5) rfl rfl rfl rfl ?_
    refine ar_aload_n (j := 0) (q := 6) rfl rfl rfl rfl ?_
    refine ar_getf (v := .int (I 91 0)) (q := 9) rfl rfl mk_91 rfl rfl ?_
    obtain ⟨hA, hB⟩ := h
    refine ar_br am_d_ge (t := 21) (q := 12) rfl rfl rfl (fun c_2 => ?_) (fun c_2 => ?_)
    · have h := hB c_2
      clear hA hB
      refine ar_iconst (v := (-1 : Int32)) (q := 22) rfl rfl rfl ?_
      exact ar_iret rfl rfl h
    · have c_2 := Classical.not_not.mp c_2
      have h := hA c_2
      clear hA hB
      refine ar_aload_n (j := 0) (q := 13) rfl rfl rfl rfl ?_
      refine ar_getf (v := .ref 92) (q := 16) rfl rfl mk_91 rfl rfl ?_
      refine ar_iload_n (j := 1) (q := 17) rfl rfl rfl rfl ?_
      obtain ⟨j_3, hx_4, hi_5, h⟩ := h
      refine ar_iald (v := I 92 j_3) (q := 18) rfl mk_92 (am_inE hi_5 hx_4 (by decide)) (am_clE hi_5 hx_4 (by decide)) rfl ?_
      refine ar_goto (t := 22) rfl rfl ?_
      exact ar_iret rfl rfl h
theorem r_Row_clear_tape_0 {d : Nat} {R : am_R} {I : Nat → Nat → Int32} {L : Nat → Nat → Int64}  (h : ∀ I_1 : Nat → Nat → Int32, I_1 = va_up I 91 (upd (I 91) 0 0) → (R none (am_mk I_1 L, 0, 0))) : am_Run am_X0 (am_meth d) 89 R 0 [some (.ref 91)] [] (am_mk I L, 0, 0) := by
  refine ar_aload_n (j := 0) (q := 1) rfl rfl rfl rfl ?_
  refine ar_iconst (v := 0) (q := 2) rfl rfl rfl ?_
  obtain ⟨I_1, hI_2⟩ : ∃ z : Nat → Nat → Int32, z = va_up I 91 (upd (I 91) 0 0) := ⟨_, rfl⟩
  have h := h I_1 hI_2
  refine ar_putf (hp2 := am_mk I_1 L) (q := 5) rfl rfl mk_91 rfl (by rw [hI_2]; exact mk_p91_0) rfl ?_
  exact ar_vret rfl rfl h
theorem r_Row_hasRoomFor_row_0 {d : Nat} {R : am_R} {I : Nat → Nat → Int32} {L : Nat → Nat → Int64} {x : Int32} (h : ((x ≤ (12 - (I 95 0)) → (R (some (.int 1)) (am_mk I L, 0, 0))) ∧ (¬ x ≤ (12 - (I 95 0)) → (R (some (.int 0)) (am_mk I L, 0, 0))))) : am_Run am_X0 (am_meth d) 86 R 0 [some (.ref 95), some (.int x)] [] (am_mk I L, 0, 0) := by
  refine ar_iload_n (j := 1) (q := 1) rfl rfl rfl rfl ?_
  refine ar_aload_n (j := 0) (q := 2) rfl rfl rfl rfl ?_
  refine ar_getf (v := .ref 96) (q := 5) rfl rfl mk_95 rfl rfl ?_
  refine ar_st (i := .arraylength) (n := 1) (st' := [.int 12, .int x]) (q := 6) rfl rfl rfl rfl ?_
  refine ar_aload_n (j := 0) (q := 7) rfl rfl rfl rfl ?_
  refine ar_getf (v := .int (I 95 0)) (q := 10) rfl rfl mk_95 rfl rfl ?_
  refine ar_ib (i := .isub) (z := 12 - (I 95 0)) (q := 11) rfl rfl rfl rfl rfl ?_
  obtain ⟨hA, hB⟩ := h
  refine ar_br am_d_gt (t := 18) (q := 14) rfl rfl rfl (fun c_1 => ?_) (fun c_1 => ?_)
  · have h := hB c_1
    clear hA hB
    refine ar_iconst (v := 0) (q := 19) rfl rfl rfl ?_
    exact ar_zret rfl rfl (Or.inl rfl) h
  · have c_1 := Classical.not_not.mp c_1
    have h := hA c_1
    clear hA hB
    refine ar_iconst (v := 1) (q := 15) rfl rfl rfl ?_
    refine ar_goto (t := 19) rfl rfl ?_
    exact ar_zret rfl rfl (Or.inr rfl) h
theorem r_Row_add_row_0 {d : Nat} {R : am_R} {I : Nat → Nat → Int32} {L : Nat → Nat → Int64} {x : Int32} (h : (((I 95 0) < 12 → (∀ I_2 : Nat → Nat → Int32, I_2 = va_up I 95 (upd (I 95) 0 ((I 95 0) + 1)) → (∃ j_4 : Nat, j_4 < 12 ∧ I 95 0 = nI j_4 ∧ (∀ I_7 : Nat → Nat → Int32, I_7 = va_up I_2 96 (upd (I_2 96) j_4 x) → (R none (am_mk I_7 L, 0, 0)))))) ∧ (¬ (I 95 0) < 12 → (R none (am_mk I L, 0, 0))))) : am_Run am_X0 (am_meth d) 87 R 0 [some (.ref 95), some (.int x)] [] (am_mk I L, 0, 0) := by
  refine ar_aload_n (j := 0) (q := 1) rfl rfl rfl rfl ?_
  refine ar_getf (v := .int (I 95 0)) (q := 4) rfl rfl mk_95 rfl rfl ?_
  refine ar_aload_n (j := 0) (q := 5) rfl rfl rfl rfl ?_
  refine ar_getf (v := .ref 96) (q := 8) rfl rfl mk_95 rfl rfl ?_
  refine ar_st (i := .arraylength) (n := 1) (st' := [.int 12, .int (I 95 0)]) (q := 9) rfl rfl rfl rfl ?_
  obtain ⟨hA, hB⟩ := h
  refine ar_br am_d_ge (t := 29) (q := 12) rfl rfl rfl (fun c_1 => ?_) (fun c_1 => ?_)
  · have h := hB c_1
    clear hA hB
    exact ar_vret rfl rfl h
  · have c_1 := Classical.not_not.mp c_1
    have h := hA c_1
    clear hA hB
    refine ar_aload_n (j := 0) (q := 13) rfl rfl rfl rfl ?_
    refine ar_getf (v := .ref 96) (q := 16) rfl rfl mk_95 rfl rfl ?_
    refine ar_aload_n (j := 0) (q := 17) rfl rfl rfl rfl ?_
    refine ar_st (i := .dup) (n := 1) (st' := [.ref 95, .ref 95, .ref 96]) (q := 18) rfl rfl rfl rfl ?_
    refine ar_getf (v := .int (I 95 0)) (q := 21) rfl rfl mk_95 rfl rfl ?_
    refine ar_st (i := .dup_x1) (n := 1) (st' := [.int (I 95 0), .ref 95, .int (I 95 0), .ref 96]) (q := 22) rfl rfl rfl rfl ?_
    refine ar_iconst (v := 1) (q := 23) rfl rfl rfl ?_
    refine ar_ib (i := .iadd) (z := (I 95 0) + 1) (q := 24) rfl rfl rfl rfl rfl ?_
    obtain ⟨I_2, hI_3⟩ : ∃ z : Nat → Nat → Int32, z = va_up I 95 (upd (I 95) 0 ((I 95 0) + 1)) := ⟨_, rfl⟩
    have h := h I_2 hI_3
    refine ar_putf (hp2 := am_mk I_2 L) (q := 27) rfl rfl mk_95 rfl (by rw [hI_3]; exact mk_p95_0) rfl ?_
    refine ar_iload_n (j := 1) (q := 28) rfl rfl rfl rfl ?_
    obtain ⟨j_4, hx_5, hi_6, h⟩ := h
    obtain ⟨I_7, hI_8⟩ : ∃ z : Nat → Nat → Int32, z = va_up I_2 96 (upd (I_2 96) j_4 x) := ⟨_, rfl⟩
    have h := h I_7 hI_8
    refine ar_iast (hp2 := am_mk I_7 L) (q := 29) rfl mk_96 (am_inE hi_6 hx_5 (by decide)) (by rw [am_clT hi_6 hx_5 (by decide), hI_8]; exact mk_s96) rfl ?_
    exact ar_vret rfl rfl h
theorem r_Row_at_row_0 {d : Nat} {R : am_R} {I : Nat → Nat → Int32} {L : Nat → Nat → Int64} {x : Int32} (h : ((x < 0 → (R (some (.int (-1 : Int32))) (am_mk I L, 0, 0))) ∧ (¬ x < 0 → (((x < (I 95 0) → (∃ j_3 : Nat, j_3 < 12 ∧ x = nI j_3 ∧ (R (some (.int (I 96 j_3))) (am_mk I L, 0, 0)))) ∧ (¬ x < (I 95 0) → (R (some (.int (-1 : Int32))) (am_mk I L, 0, 0)))))))) : am_Run am_X0 (am_meth d) 88 R 0 [some (.ref 95), some (.int x)] [] (am_mk I L, 0, 0) := by
  refine ar_iload_n (j := 1) (q := 1) rfl rfl rfl rfl ?_
  obtain ⟨hA, hB⟩ := h
  refine ar_b0 am_c_lt (t := 21) (q := 4) rfl rfl rfl (fun c_1 => ?_) (fun c_1 => ?_)
  · have h := hA c_1
    clear hA hB
    refine ar_iconst (v := (-1 : Int32)) (q := 22) rfl rfl rfl ?_
    exact ar_iret rfl rfl h
  · have h := hB c_1
    clear hA hB
    refine ar_iload_n (j := 1) (q := 5) rfl rfl rfl rfl ?_
    refine ar_aload_n (j := 0) (q := 6) rfl rfl rfl rfl ?_
    refine ar_getf (v := .int (I 95 0)) (q := 9) rfl rfl mk_95 rfl rfl ?_
    obtain ⟨hA, hB⟩ := h
    refine ar_br am_d_ge (t := 21) (q := 12) rfl rfl rfl (fun c_2 => ?_) (fun c_2 => ?_)
    · have h := hB c_2
      clear hA hB
      refine ar_iconst (v := (-1 : Int32)) (q := 22) rfl rfl rfl ?_
      exact ar_iret rfl rfl h
    · have c_2 := Classical.not_not.mp c_2
      have h := hA c_2
      clear hA hB
      refine ar_aload_n (j := 0) (q := 13) rfl rfl rfl rfl ?_
      refine ar_getf (v := .ref 96) (q := 16) rfl rfl mk_95 rfl rfl ?_
      refine ar_iload_n (j := 1) (q := 17) rfl rfl rfl rfl ?_
      obtain ⟨j_3, hx_4, hi_5, h⟩ := h
      refine ar_iald (v := I 96 j_3) (q := 18) rfl mk_96 (am_inE hi_5 hx_4 (by decide)) (am_clE hi_5 hx_4 (by decide)) rfl ?_
      refine ar_goto (t := 22) rfl rfl ?_
      exact ar_iret rfl rfl h
theorem r_Row_clear_row_0 {d : Nat} {R : am_R} {I : Nat → Nat → Int32} {L : Nat → Nat → Int64}  (h : ∀ I_1 : Nat → Nat → Int32, I_1 = va_up I 95 (upd (I 95) 0 0) → (R none (am_mk I_1 L, 0, 0))) : am_Run am_X0 (am_meth d) 89 R 0 [some (.ref 95)] [] (am_mk I L, 0, 0) := by
  refine ar_aload_n (j := 0) (q := 1) rfl rfl rfl rfl ?_
  refine ar_iconst (v := 0) (q := 2) rfl rfl rfl ?_
  obtain ⟨I_1, hI_2⟩ : ∃ z : Nat → Nat → Int32, z = va_up I 95 (upd (I 95) 0 0) := ⟨_, rfl⟩
  have h := h I_1 hI_2
  refine ar_putf (hp2 := am_mk I_1 L) (q := 5) rfl rfl mk_95 rfl (by rw [hI_2]; exact mk_p95_0) rfl ?_
  exact ar_vret rfl rfl h
theorem r_Row_hasRoomFor_told_0 {d : Nat} {R : am_R} {I : Nat → Nat → Int32} {L : Nat → Nat → Int64} {x : Int32} (h : ((x ≤ (6 - (I 97 0)) → (R (some (.int 1)) (am_mk I L, 0, 0))) ∧ (¬ x ≤ (6 - (I 97 0)) → (R (some (.int 0)) (am_mk I L, 0, 0))))) : am_Run am_X0 (am_meth d) 86 R 0 [some (.ref 97), some (.int x)] [] (am_mk I L, 0, 0) := by
  refine ar_iload_n (j := 1) (q := 1) rfl rfl rfl rfl ?_
  refine ar_aload_n (j := 0) (q := 2) rfl rfl rfl rfl ?_
  refine ar_getf (v := .ref 98) (q := 5) rfl rfl mk_97 rfl rfl ?_
  refine ar_st (i := .arraylength) (n := 1) (st' := [.int 6, .int x]) (q := 6) rfl rfl rfl rfl ?_
  refine ar_aload_n (j := 0) (q := 7) rfl rfl rfl rfl ?_
  refine ar_getf (v := .int (I 97 0)) (q := 10) rfl rfl mk_97 rfl rfl ?_
  refine ar_ib (i := .isub) (z := 6 - (I 97 0)) (q := 11) rfl rfl rfl rfl rfl ?_
  obtain ⟨hA, hB⟩ := h
  refine ar_br am_d_gt (t := 18) (q := 14) rfl rfl rfl (fun c_1 => ?_) (fun c_1 => ?_)
  · have h := hB c_1
    clear hA hB
    refine ar_iconst (v := 0) (q := 19) rfl rfl rfl ?_
    exact ar_zret rfl rfl (Or.inl rfl) h
  · have c_1 := Classical.not_not.mp c_1
    have h := hA c_1
    clear hA hB
    refine ar_iconst (v := 1) (q := 15) rfl rfl rfl ?_
    refine ar_goto (t := 19) rfl rfl ?_
    exact ar_zret rfl rfl (Or.inr rfl) h
theorem r_Row_add_told_0 {d : Nat} {R : am_R} {I : Nat → Nat → Int32} {L : Nat → Nat → Int64} {x : Int32} (h : (((I 97 0) < 6 → (∀ I_2 : Nat → Nat → Int32, I_2 = va_up I 97 (upd (I 97) 0 ((I 97 0) + 1)) → (∃ j_4 : Nat, j_4 < 6 ∧ I 97 0 = nI j_4 ∧ (∀ I_7 : Nat → Nat → Int32, I_7 = va_up I_2 98 (upd (I_2 98) j_4 x) → (R none (am_mk I_7 L, 0, 0)))))) ∧ (¬ (I 97 0) < 6 → (R none (am_mk I L, 0, 0))))) : am_Run am_X0 (am_meth d) 87 R 0 [some (.ref 97), some (.int x)] [] (am_mk I L, 0, 0) := by
  refine ar_aload_n (j := 0) (q := 1) rfl rfl rfl rfl ?_
  refine ar_getf (v := .int (I 97 0)) (q := 4) rfl rfl mk_97 rfl rfl ?_
  refine ar_aload_n (j := 0) (q := 5) rfl rfl rfl rfl ?_
  refine ar_getf (v := .ref 98) (q := 8) rfl rfl mk_97 rfl rfl ?_
  refine ar_st (i := .arraylength) (n := 1) (st' := [.int 6, .int (I 97 0)]) (q := 9) rfl rfl rfl rfl ?_
  obtain ⟨hA, hB⟩ := h
  refine ar_br am_d_ge (t := 29) (q := 12) rfl rfl rfl (fun c_1 => ?_) (fun c_1 => ?_)
  · have h := hB c_1
    clear hA hB
    exact ar_vret rfl rfl h
  · have c_1 := Classical.not_not.mp c_1
    have h := hA c_1
    clear hA hB
    refine ar_aload_n (j := 0) (q := 13) rfl rfl rfl rfl ?_
    refine ar_getf (v := .ref 98) (q := 16) rfl rfl mk_97 rfl rfl ?_
    refine ar_aload_n (j := 0) (q := 17) rfl rfl rfl rfl ?_
    refine ar_st (i := .dup) (n := 1) (st' := [.ref 97, .ref 97, .ref 98]) (q := 18) rfl rfl rfl rfl ?_
    refine ar_getf (v := .int (I 97 0)) (q := 21) rfl rfl mk_97 rfl rfl ?_
    refine ar_st (i := .dup_x1) (n := 1) (st' := [.int (I 97 0), .ref 97, .int (I 97 0), .ref 98]) (q := 22) rfl rfl rfl rfl ?_
    refine ar_iconst (v := 1) (q := 23) rfl rfl rfl ?_
    refine ar_ib (i := .iadd) (z := (I 97 0) + 1) (q := 24) rfl rfl rfl rfl rfl ?_
    obtain ⟨I_2, hI_3⟩ : ∃ z : Nat → Nat → Int32, z = va_up I 97 (upd (I 97) 0 ((I 97 0) + 1)) := ⟨_, rfl⟩
    have h := h I_2 hI_3
    refine ar_putf (hp2 := am_mk I_2 L) (q := 27) rfl rfl mk_97 rfl (by rw [hI_3]; exact mk_p97_0) rfl ?_
    refine ar_iload_n (j := 1) (q := 28) rfl rfl rfl rfl ?_
    obtain ⟨j_4, hx_5, hi_6, h⟩ := h
    obtain ⟨I_7, hI_8⟩ : ∃ z : Nat → Nat → Int32, z = va_up I_2 98 (upd (I_2 98) j_4 x) := ⟨_, rfl⟩
    have h := h I_7 hI_8
    refine ar_iast (hp2 := am_mk I_7 L) (q := 29) rfl mk_98 (am_inE hi_6 hx_5 (by decide)) (by rw [am_clT hi_6 hx_5 (by decide), hI_8]; exact mk_s98) rfl ?_
    exact ar_vret rfl rfl h
theorem r_Row_at_told_0 {d : Nat} {R : am_R} {I : Nat → Nat → Int32} {L : Nat → Nat → Int64} {x : Int32} (h : ((x < 0 → (R (some (.int (-1 : Int32))) (am_mk I L, 0, 0))) ∧ (¬ x < 0 → (((x < (I 97 0) → (∃ j_3 : Nat, j_3 < 6 ∧ x = nI j_3 ∧ (R (some (.int (I 98 j_3))) (am_mk I L, 0, 0)))) ∧ (¬ x < (I 97 0) → (R (some (.int (-1 : Int32))) (am_mk I L, 0, 0)))))))) : am_Run am_X0 (am_meth d) 88 R 0 [some (.ref 97), some (.int x)] [] (am_mk I L, 0, 0) := by
  refine ar_iload_n (j := 1) (q := 1) rfl rfl rfl rfl ?_
  obtain ⟨hA, hB⟩ := h
  refine ar_b0 am_c_lt (t := 21) (q := 4) rfl rfl rfl (fun c_1 => ?_) (fun c_1 => ?_)
  · have h := hA c_1
    clear hA hB
    refine ar_iconst (v := (-1 : Int32)) (q := 22) rfl rfl rfl ?_
    exact ar_iret rfl rfl h
  · have h := hB c_1
    clear hA hB
    refine ar_iload_n (j := 1) (q := 5) rfl rfl rfl rfl ?_
    refine ar_aload_n (j := 0) (q := 6) rfl rfl rfl rfl ?_
    refine ar_getf (v := .int (I 97 0)) (q := 9) rfl rfl mk_97 rfl rfl ?_
    obtain ⟨hA, hB⟩ := h
    refine ar_br am_d_ge (t := 21) (q := 12) rfl rfl rfl (fun c_2 => ?_) (fun c_2 => ?_)
    · have h := hB c_2
      clear hA hB
      refine ar_iconst (v := (-1 : Int32)) (q := 22) rfl rfl rfl ?_
      exact ar_iret rfl rfl h
    · have c_2 := Classical.not_not.mp c_2
      have h := hA c_2
      clear hA hB
      refine ar_aload_n (j := 0) (q := 13) rfl rfl rfl rfl ?_
      refine ar_getf (v := .ref 98) (q := 16) rfl rfl mk_97 rfl rfl ?_
      refine ar_iload_n (j := 1) (q := 17) rfl rfl rfl rfl ?_
      obtain ⟨j_3, hx_4, hi_5, h⟩ := h
      refine ar_iald (v := I 98 j_3) (q := 18) rfl mk_98 (am_inE hi_5 hx_4 (by decide)) (am_clE hi_5 hx_4 (by decide)) rfl ?_
      refine ar_goto (t := 22) rfl rfl ?_
      exact ar_iret rfl rfl h
theorem r_Row_clear_told_0 {d : Nat} {R : am_R} {I : Nat → Nat → Int32} {L : Nat → Nat → Int64}  (h : ∀ I_1 : Nat → Nat → Int32, I_1 = va_up I 97 (upd (I 97) 0 0) → (R none (am_mk I_1 L, 0, 0))) : am_Run am_X0 (am_meth d) 89 R 0 [some (.ref 97)] [] (am_mk I L, 0, 0) := by
  refine ar_aload_n (j := 0) (q := 1) rfl rfl rfl rfl ?_
  refine ar_iconst (v := 0) (q := 2) rfl rfl rfl ?_
  obtain ⟨I_1, hI_2⟩ : ∃ z : Nat → Nat → Int32, z = va_up I 97 (upd (I 97) 0 0) := ⟨_, rfl⟩
  have h := h I_1 hI_2
  refine ar_putf (hp2 := am_mk I_1 L) (q := 5) rfl rfl mk_97 rfl (by rw [hI_2]; exact mk_p97_0) rfl ?_
  exact ar_vret rfl rfl h
theorem r_H_refuse_0 {d : Nat} {R : am_R} {I : Nat → Nat → Int32} {L : Nat → Nat → Int64} {x : Int32} (h : (((-x) < 0 → (R (some (.int x)) (am_mk I L, 0, 0))) ∧ (¬ (-x) < 0 → ((((-x) < 7 → (∃ j_3 : Nat, j_3 < 7 ∧ -x = nI j_3 ∧ (∀ I_6 : Nat → Nat → Int32, I_6 = va_up I 1 (upd (I 1) j_3 ((I 1 j_3) + 1)) → (R (some (.int x)) (am_mk I_6 L, 0, 0))))) ∧ (¬ (-x) < 7 → (R (some (.int x)) (am_mk I L, 0, 0)))))))) : am_Run am_X0 (am_meth d) 2 R 0 [some (.ref 0), some (.int x), none] [] (am_mk I L, 0, 0) := by
  refine ar_iload_n (j := 1) (q := 1) rfl rfl rfl rfl ?_
  refine ar_st (i := .ineg) (n := 1) (st' := [.int (-x)]) (q := 2) rfl rfl rfl rfl ?_
  refine ar_istore_n (j := 2) (ls' := [some (.ref 0), some (.int x), some (.int (-x))]) (q := 3) rfl rfl rfl rfl rfl ?_
  refine ar_iload_n (j := 2) (q := 4) rfl rfl rfl rfl ?_
  obtain ⟨hA, hB⟩ := h
  refine ar_b0 am_c_lt (t := 26) (q := 7) rfl rfl rfl (fun c_1 => ?_) (fun c_1 => ?_)
  · have h := hA c_1
    clear hA hB
    refine ar_iload_n (j := 1) (q := 27) rfl rfl rfl rfl ?_
    exact ar_iret rfl rfl h
  · have h := hB c_1
    clear hA hB
    refine ar_iload_n (j := 2) (q := 8) rfl rfl rfl rfl ?_
    refine ar_aload_n (j := 0) (q := 9) rfl rfl rfl rfl ?_
    refine ar_getf (v := .ref 1) (q := 12) rfl rfl mk_0 rfl rfl ?_
    refine ar_st (i := .arraylength) (n := 1) (st' := [.int 7, .int (-x)]) (q := 13) rfl rfl rfl rfl ?_
    obtain ⟨hA, hB⟩ := h
    refine ar_br am_d_ge (t := 26) (q := 16) rfl rfl rfl (fun c_2 => ?_) (fun c_2 => ?_)
    · have h := hB c_2
      clear hA hB
      refine ar_iload_n (j := 1) (q := 27) rfl rfl rfl rfl ?_
      exact ar_iret rfl rfl h
    · have c_2 := Classical.not_not.mp c_2
      have h := hA c_2
      clear hA hB
      refine ar_aload_n (j := 0) (q := 17) rfl rfl rfl rfl ?_
      refine ar_getf (v := .ref 1) (q := 20) rfl rfl mk_0 rfl rfl ?_
      refine ar_iload_n (j := 2) (q := 21) rfl rfl rfl rfl ?_
      refine ar_st (i := .dup2) (n := 1) (st' := [.int (-x), .ref 1, .int (-x), .ref 1]) (q := 22) rfl rfl rfl rfl ?_
      obtain ⟨j_3, hx_4, hi_5, h⟩ := h
      refine ar_iald (v := I 1 j_3) (q := 23) rfl mk_1 (am_inE hi_5 hx_4 (by decide)) (am_clE hi_5 hx_4 (by decide)) rfl ?_
      refine ar_iconst (v := 1) (q := 24) rfl rfl rfl ?_
      refine ar_ib (i := .iadd) (z := (I 1 j_3) + 1) (q := 25) rfl rfl rfl rfl rfl ?_
      obtain ⟨I_6, hI_7⟩ : ∃ z : Nat → Nat → Int32, z = va_up I 1 (upd (I 1) j_3 ((I 1 j_3) + 1)) := ⟨_, rfl⟩
      have h := h I_6 hI_7
      refine ar_iast (hp2 := am_mk I_6 L) (q := 26) rfl mk_1 (am_inE hi_5 hx_4 (by decide)) (by rw [am_clT hi_5 hx_4 (by decide), hI_7]; exact mk_s1) rfl ?_
      refine ar_iload_n (j := 1) (q := 27) rfl rfl rfl rfl ?_
      exact ar_iret rfl rfl h
theorem r_H_refuseBeyond_0 {d : Nat} {R : am_R} {I : Nat → Nat → Int32} {L : Nat → Nat → Int64} {x : Int32} (h : am_meth d 2 [.ref 0, .int x] (am_mk I L, 0, 0) (am_ri (fun z_1 I_2 L_3 => R (some (.int (1000000000 - z_1))) (am_mk I_2 L_3, 0, 0)))) : am_Run am_X0 (am_meth d) 18 R 0 [some (.ref 0), some (.int x)] [] (am_mk I L, 0, 0) := by
  refine ar_ldcw (v := 1000000000) (q := 3) rfl rfl rfl ?_
  refine ar_aload_n (j := 0) (q := 4) rfl rfl rfl rfl ?_
  refine ar_iload_n (j := 1) (q := 5) rfl rfl rfl rfl ?_
  refine ar_invv (as := [.int x]) (rest := [.int 1000000000]) (b2 := (0, 0)) (b3 := (0, 0)) (q := 8) rfl rfl rfl rfl mk_0 rfl rfl rfl rfl rfl ?_
  refine am_meth_mono d _ _ _ _ _ (fun v9 m9 h9 => ?_) h
  obtain ⟨z_1, I_2, L_3, rfl, rfl, h⟩ := h9
  show am_Run am_X0 (am_meth d) 18 R 8 [some (.ref 0), some (.int x)] [.int z_1, .int 1000000000] (am_mk I_2 L_3, 0, 0)
  refine ar_ib (i := .isub) (z := 1000000000 - z_1) (q := 9) rfl rfl rfl rfl rfl ?_
  exact ar_iret rfl rfl h
theorem r_H_boundRefusal_0 {d : Nat} {R : am_R} {I : Nat → Nat → Int32} {L : Nat → Nat → Int64} {x : Int32} {lo : Int32} {hi : Int32} (h : ((x < lo → (R (some (.int (-4 : Int32))) (am_mk I L, 0, 0))) ∧ (¬ x < lo → (((x ≤ hi → (R (some (.int 0)) (am_mk I L, 0, 0))) ∧ (¬ x ≤ hi → (R (some (.int (-6 : Int32))) (am_mk I L, 0, 0)))))))) : am_Run am_X0 (am_meth d) 5 R 0 [some (.int x), some (.int lo), some (.int hi)] [] (am_mk I L, 0, 0) := by
  refine ar_iload_n (j := 0) (q := 1) rfl rfl rfl rfl ?_
  refine ar_iload_n (j := 1) (q := 2) rfl rfl rfl rfl ?_
  obtain ⟨hA, hB⟩ := h
  refine ar_br am_d_ge (t := 8) (q := 5) rfl rfl rfl (fun c_1 => ?_) (fun c_1 => ?_)
  · have h := hB c_1
    clear hA hB
    refine ar_iload_n (j := 0) (q := 9) rfl rfl rfl rfl ?_
    refine ar_iload_n (j := 2) (q := 10) rfl rfl rfl rfl ?_
    obtain ⟨hA, hB⟩ := h
    refine ar_br am_c_le (t := 18) (q := 13) rfl rfl rfl (fun c_2 => ?_) (fun c_2 => ?_)
    · have h := hA c_2
      clear hA hB
      refine ar_iconst (v := 0) (q := 19) rfl rfl rfl ?_
      exact ar_iret rfl rfl h
    · have h := hB c_2
      clear hA hB
      refine ar_bipush (v := (-6 : Int32)) (q := 15) rfl rfl rfl ?_
      refine ar_goto (t := 19) rfl rfl ?_
      exact ar_iret rfl rfl h
  · have c_1 := Classical.not_not.mp c_1
    have h := hA c_1
    clear hA hB
    refine ar_bipush (v := (-4 : Int32)) (q := 7) rfl rfl rfl ?_
    exact ar_iret rfl rfl h
theorem r_M_no_0 {d : Nat} {R : am_R} {I : Nat → Nat → Int32} {L : Nat → Nat → Int64} {x : Int32} (h : ∃ j_1 : Nat, j_1 < 7 ∧ -x = nI j_1 ∧ (∀ I_4 : Nat → Nat → Int32, I_4 = va_up I 156 (upd (I 156) j_1 ((I 156 j_1) + 1)) → (R (some (.int x)) (am_mk I_4 L, 0, 0)))) : am_Run am_X0 (am_meth d) 151 R 0 [some (.ref 113), some (.int x)] [] (am_mk I L, 0, 0) := by
  refine ar_aload_n (j := 0) (q := 1) rfl rfl rfl rfl ?_
  refine ar_getf (v := .ref 156) (q := 4) rfl rfl mk_113 rfl rfl ?_
  refine ar_iload_n (j := 1) (q := 5) rfl rfl rfl rfl ?_
  refine ar_st (i := .ineg) (n := 1) (st' := [.int (-x), .ref 156]) (q := 6) rfl rfl rfl rfl ?_
  refine ar_st (i := .dup2) (n := 1) (st' := [.int (-x), .ref 156, .int (-x), .ref 156]) (q := 7) rfl rfl rfl rfl ?_
  obtain ⟨j_1, hx_2, hi_3, h⟩ := h
  refine ar_iald (v := I 156 j_1) (q := 8) rfl mk_156 (am_inE hi_3 hx_2 (by decide)) (am_clE hi_3 hx_2 (by decide)) rfl ?_
  refine ar_iconst (v := 1) (q := 9) rfl rfl rfl ?_
  refine ar_ib (i := .iadd) (z := (I 156 j_1) + 1) (q := 10) rfl rfl rfl rfl rfl ?_
  obtain ⟨I_4, hI_5⟩ : ∃ z : Nat → Nat → Int32, z = va_up I 156 (upd (I 156) j_1 ((I 156 j_1) + 1)) := ⟨_, rfl⟩
  have h := h I_4 hI_5
  refine ar_iast (hp2 := am_mk I_4 L) (q := 11) rfl mk_156 (am_inE hi_3 hx_2 (by decide)) (by rw [am_clT hi_3 hx_2 (by decide), hI_5]; exact mk_s156) rfl ?_
  refine ar_iload_n (j := 1) (q := 12) rfl rfl rfl rfl ?_
  exact ar_iret rfl rfl h
theorem r_M_far_0 {d : Nat} {R : am_R} {I : Nat → Nat → Int32} {L : Nat → Nat → Int64} {x : Int32} (h : am_meth d 151 [.ref 113, .int x] (am_mk I L, 0, 0) (am_ri (fun z_1 I_2 L_3 => R (some (.int (1000000000 - z_1))) (am_mk I_2 L_3, 0, 0)))) : am_Run am_X0 (am_meth d) 199 R 0 [some (.ref 113), some (.int x)] [] (am_mk I L, 0, 0) := by
  refine ar_ldc (v := 1000000000) (q := 2) rfl rfl rfl ?_
  refine ar_aload_n (j := 0) (q := 3) rfl rfl rfl rfl ?_
  refine ar_iload_n (j := 1) (q := 4) rfl rfl rfl rfl ?_
  refine ar_invv (as := [.int x]) (rest := [.int 1000000000]) (b2 := (0, 0)) (b3 := (0, 0)) (q := 7) rfl rfl rfl rfl mk_113 rfl rfl rfl rfl rfl ?_
  refine am_meth_mono d _ _ _ _ _ (fun v9 m9 h9 => ?_) h
  obtain ⟨z_1, I_2, L_3, rfl, rfl, h⟩ := h9
  show am_Run am_X0 (am_meth d) 199 R 7 [some (.ref 113), some (.int x)] [.int z_1, .int 1000000000] (am_mk I_2 L_3, 0, 0)
  refine ar_ib (i := .isub) (z := 1000000000 - z_1) (q := 8) rfl rfl rfl rfl rfl ?_
  exact ar_iret rfl rfl h
theorem r_M_isKeeper_0 {d : Nat} {R : am_R} {I : Nat → Nat → Int32} {L : Nat → Nat → Int64} {x : Int32} (h : ((x < 0 → (R (some (.int 0)) (am_mk I L, 0, 0))) ∧ (¬ x < 0 → (((x < (I 113 4) → (R (some (.int 1)) (am_mk I L, 0, 0))) ∧ (¬ x < (I 113 4) → (R (some (.int 0)) (am_mk I L, 0, 0)))))))) : am_Run am_X0 (am_meth d) 164 R 0 [some (.ref 113), some (.int x)] [] (am_mk I L, 0, 0) := by
  refine ar_iload_n (j := 1) (q := 1) rfl rfl rfl rfl ?_
  obtain ⟨hA, hB⟩ := h
  refine ar_b0 am_c_lt (t := 16) (q := 4) rfl rfl rfl (fun c_1 => ?_) (fun c_1 => ?_)
  · have h := hA c_1
    clear hA hB
    refine ar_iconst (v := 0) (q := 17) rfl rfl rfl ?_
    exact ar_zret rfl rfl (Or.inl rfl) h
  · have h := hB c_1
    clear hA hB
    refine ar_iload_n (j := 1) (q := 5) rfl rfl rfl rfl ?_
    refine ar_aload_n (j := 0) (q := 6) rfl rfl rfl rfl ?_
    refine ar_getf (v := .int (I 113 4)) (q := 9) rfl rfl mk_113 rfl rfl ?_
    obtain ⟨hA, hB⟩ := h
    refine ar_br am_d_ge (t := 16) (q := 12) rfl rfl rfl (fun c_2 => ?_) (fun c_2 => ?_)
    · have h := hB c_2
      clear hA hB
      refine ar_iconst (v := 0) (q := 17) rfl rfl rfl ?_
      exact ar_zret rfl rfl (Or.inl rfl) h
    · have c_2 := Classical.not_not.mp c_2
      have h := hA c_2
      clear hA hB
      refine ar_iconst (v := 1) (q := 13) rfl rfl rfl ?_
      refine ar_goto (t := 17) rfl rfl ?_
      exact ar_zret rfl rfl (Or.inr rfl) h
theorem r_M_isHouse_0 {d : Nat} {R : am_R} {I : Nat → Nat → Int32} {L : Nat → Nat → Int64} {x : Int32} (h : ((x < 0 → (R (some (.int 0)) (am_mk I L, 0, 0))) ∧ (¬ x < 0 → (((x < (I 113 10) → (R (some (.int 1)) (am_mk I L, 0, 0))) ∧ (¬ x < (I 113 10) → (R (some (.int 0)) (am_mk I L, 0, 0)))))))) : am_Run am_X0 (am_meth d) 159 R 0 [some (.ref 113), some (.int x)] [] (am_mk I L, 0, 0) := by
  refine ar_iload_n (j := 1) (q := 1) rfl rfl rfl rfl ?_
  obtain ⟨hA, hB⟩ := h
  refine ar_b0 am_c_lt (t := 16) (q := 4) rfl rfl rfl (fun c_1 => ?_) (fun c_1 => ?_)
  · have h := hA c_1
    clear hA hB
    refine ar_iconst (v := 0) (q := 17) rfl rfl rfl ?_
    exact ar_zret rfl rfl (Or.inl rfl) h
  · have h := hB c_1
    clear hA hB
    refine ar_iload_n (j := 1) (q := 5) rfl rfl rfl rfl ?_
    refine ar_aload_n (j := 0) (q := 6) rfl rfl rfl rfl ?_
    refine ar_getf (v := .int (I 113 10)) (q := 9) rfl rfl mk_113 rfl rfl ?_
    obtain ⟨hA, hB⟩ := h
    refine ar_br am_d_ge (t := 16) (q := 12) rfl rfl rfl (fun c_2 => ?_) (fun c_2 => ?_)
    · have h := hB c_2
      clear hA hB
      refine ar_iconst (v := 0) (q := 17) rfl rfl rfl ?_
      exact ar_zret rfl rfl (Or.inl rfl) h
    · have c_2 := Classical.not_not.mp c_2
      have h := hA c_2
      clear hA hB
      refine ar_iconst (v := 1) (q := 13) rfl rfl rfl ?_
      refine ar_goto (t := 17) rfl rfl ?_
      exact ar_zret rfl rfl (Or.inr rfl) h
theorem r_M_isStay_0 {d : Nat} {R : am_R} {I : Nat → Nat → Int32} {L : Nat → Nat → Int64} {x : Int32} (h : ((x < 0 → (R (some (.int 0)) (am_mk I L, 0, 0))) ∧ (¬ x < 0 → (((x < (I 113 14) → (R (some (.int 1)) (am_mk I L, 0, 0))) ∧ (¬ x < (I 113 14) → (R (some (.int 0)) (am_mk I L, 0, 0)))))))) : am_Run am_X0 (am_meth d) 161 R 0 [some (.ref 113), some (.int x)] [] (am_mk I L, 0, 0) := by
  refine ar_iload_n (j := 1) (q := 1) rfl rfl rfl rfl ?_
  obtain ⟨hA, hB⟩ := h
  refine ar_b0 am_c_lt (t := 16) (q := 4) rfl rfl rfl (fun c_1 => ?_) (fun c_1 => ?_)
  · have h := hA c_1
    clear hA hB
    refine ar_iconst (v := 0) (q := 17) rfl rfl rfl ?_
    exact ar_zret rfl rfl (Or.inl rfl) h
  · have h := hB c_1
    clear hA hB
    refine ar_iload_n (j := 1) (q := 5) rfl rfl rfl rfl ?_
    refine ar_aload_n (j := 0) (q := 6) rfl rfl rfl rfl ?_
    refine ar_getf (v := .int (I 113 14)) (q := 9) rfl rfl mk_113 rfl rfl ?_
    obtain ⟨hA, hB⟩ := h
    refine ar_br am_d_ge (t := 16) (q := 12) rfl rfl rfl (fun c_2 => ?_) (fun c_2 => ?_)
    · have h := hB c_2
      clear hA hB
      refine ar_iconst (v := 0) (q := 17) rfl rfl rfl ?_
      exact ar_zret rfl rfl (Or.inl rfl) h
    · have c_2 := Classical.not_not.mp c_2
      have h := hA c_2
      clear hA hB
      refine ar_iconst (v := 1) (q := 13) rfl rfl rfl ?_
      refine ar_goto (t := 17) rfl rfl ?_
      exact ar_zret rfl rfl (Or.inr rfl) h
theorem r_M_isTown_0 {d : Nat} {R : am_R} {I : Nat → Nat → Int32} {L : Nat → Nat → Int64} {x : Int32} (h : ((x < 0 → (R (some (.int 0)) (am_mk I L, 0, 0))) ∧ (¬ x < 0 → (((x < 10 → (R (some (.int 1)) (am_mk I L, 0, 0))) ∧ (¬ x < 10 → (R (some (.int 0)) (am_mk I L, 0, 0)))))))) : am_Run am_X0 (am_meth d) 153 R 0 [some (.ref 113), some (.int x)] [] (am_mk I L, 0, 0) := by
  refine ar_iload_n (j := 1) (q := 1) rfl rfl rfl rfl ?_
  obtain ⟨hA, hB⟩ := h
  refine ar_b0 am_c_lt (t := 14) (q := 4) rfl rfl rfl (fun c_1 => ?_) (fun c_1 => ?_)
  · have h := hA c_1
    clear hA hB
    refine ar_iconst (v := 0) (q := 15) rfl rfl rfl ?_
    exact ar_zret rfl rfl (Or.inl rfl) h
  · have h := hB c_1
    clear hA hB
    refine ar_iload_n (j := 1) (q := 5) rfl rfl rfl rfl ?_
    refine ar_bipush (v := 10) (q := 7) rfl rfl rfl ?_
    obtain ⟨hA, hB⟩ := h
    refine ar_br am_d_ge (t := 14) (q := 10) rfl rfl rfl (fun c_2 => ?_) (fun c_2 => ?_)
    · have h := hB c_2
      clear hA hB
      refine ar_iconst (v := 0) (q := 15) rfl rfl rfl ?_
      exact ar_zret rfl rfl (Or.inl rfl) h
    · have c_2 := Classical.not_not.mp c_2
      have h := hA c_2
      clear hA hB
      refine ar_iconst (v := 1) (q := 11) rfl rfl rfl ?_
      refine ar_goto (t := 15) rfl rfl ?_
      exact ar_zret rfl rfl (Or.inr rfl) h
theorem r_M_townOf_0 {d : Nat} {R : am_R} {I : Nat → Nat → Int32} {L : Nat → Nat → Int64} {s : Nat} (h : s < 60 ∧ (∃ j_2 : Nat, j_2 < 20 ∧ I 125 s = nI j_2 ∧ (R (some (.int (I 122 j_2))) (am_mk I L, 0, 0)))) : am_Run am_X0 (am_meth d) 169 R 0 [some (.ref 113), some (.int (nI s))] [] (am_mk I L, 0, 0) := by
  refine ar_aload_n (j := 0) (q := 1) rfl rfl rfl rfl ?_
  refine ar_getf (v := .ref 122) (q := 4) rfl rfl mk_113 rfl rfl ?_
  refine ar_aload_n (j := 0) (q := 5) rfl rfl rfl rfl ?_
  refine ar_getf (v := .ref 125) (q := 8) rfl rfl mk_113 rfl rfl ?_
  refine ar_iload_n (j := 1) (q := 9) rfl rfl rfl rfl ?_
  obtain ⟨hx_1, h⟩ := h
  refine ar_iald (v := I 125 s) (q := 10) rfl mk_125 (am_inE rfl hx_1 (by decide)) (am_clE rfl hx_1 (by decide)) rfl ?_
  obtain ⟨j_2, hx_3, hi_4, h⟩ := h
  refine ar_iald (v := I 122 j_2) (q := 11) rfl mk_122 (am_inE hi_4 hx_3 (by decide)) (am_clE hi_4 hx_3 (by decide)) rfl ?_
  exact ar_iret rfl rfl h
theorem r_M_isOver_0 {d : Nat} {R : am_R} {I : Nat → Nat → Int32} {L : Nat → Nat → Int64} {s : Nat} (h : s < 60 ∧ ((((I 127 s) < (I 113 0) → (R (some (.int 1)) (am_mk I L, 0, 0))) ∧ (¬ (I 127 s) < (I 113 0) → (R (some (.int 0)) (am_mk I L, 0, 0)))))) : am_Run am_X0 (am_meth d) 162 R 0 [some (.ref 113), some (.int (nI s))] [] (am_mk I L, 0, 0) := by
  refine ar_aload_n (j := 0) (q := 1) rfl rfl rfl rfl ?_
  refine ar_getf (v := .ref 127) (q := 4) rfl rfl mk_113 rfl rfl ?_
  refine ar_iload_n (j := 1) (q := 5) rfl rfl rfl rfl ?_
  obtain ⟨hx_1, h⟩ := h
  refine ar_iald (v := I 127 s) (q := 6) rfl mk_127 (am_inE rfl hx_1 (by decide)) (am_clE rfl hx_1 (by decide)) rfl ?_
  refine ar_aload_n (j := 0) (q := 7) rfl rfl rfl rfl ?_
  refine ar_getf (v := .int (I 113 0)) (q := 10) rfl rfl mk_113 rfl rfl ?_
  obtain ⟨hA, hB⟩ := h
  refine ar_br am_d_ge (t := 17) (q := 13) rfl rfl rfl (fun c_2 => ?_) (fun c_2 => ?_)
  · have h := hB c_2
    clear hA hB
    refine ar_iconst (v := 0) (q := 18) rfl rfl rfl ?_
    exact ar_zret rfl rfl (Or.inl rfl) h
  · have c_2 := Classical.not_not.mp c_2
    have h := hA c_2
    clear hA hB
    refine ar_iconst (v := 1) (q := 14) rfl rfl rfl ?_
    refine ar_goto (t := 18) rfl rfl ?_
    exact ar_zret rfl rfl (Or.inr rfl) h
theorem r_M_has_0 {d : Nat} {R : am_R} {I : Nat → Nat → Int32} {L : Nat → Nat → Int64} {w : Int32} {s : Nat} (h : s < 60 ∧ ((((I 128 s) = 1 → ((((I 129 s) = w → (R (some (.int 1)) (am_mk I L, 0, 0))) ∧ (¬ (I 129 s) = w → (R (some (.int 0)) (am_mk I L, 0, 0)))))) ∧ (¬ (I 128 s) = 1 → (R (some (.int 0)) (am_mk I L, 0, 0)))))) : am_Run am_X0 (am_meth d) 167 R 0 [some (.ref 113), some (.int w), some (.int (nI s))] [] (am_mk I L, 0, 0) := by
  refine ar_aload_n (j := 0) (q := 1) rfl rfl rfl rfl ?_
  refine ar_getf (v := .ref 128) (q := 4) rfl rfl mk_113 rfl rfl ?_
  refine ar_iload_n (j := 2) (q := 5) rfl rfl rfl rfl ?_
  obtain ⟨hx_1, h⟩ := h
  refine ar_iald (v := I 128 s) (q := 6) rfl mk_128 (am_inE rfl hx_1 (by decide)) (am_clE rfl hx_1 (by decide)) rfl ?_
  refine ar_iconst (v := 1) (q := 7) rfl rfl rfl ?_
  obtain ⟨hA, hB⟩ := h
  refine ar_br am_c_ne (t := 24) (q := 10) rfl rfl rfl (fun c_2 => ?_) (fun c_2 => ?_)
  · have h := hB c_2
    clear hA hB
    refine ar_iconst (v := 0) (q := 25) rfl rfl rfl ?_
    exact ar_zret rfl rfl (Or.inl rfl) h
  · have c_2 := Classical.not_not.mp c_2
    have h := hA c_2
    clear hA hB
    refine ar_aload_n (j := 0) (q := 11) rfl rfl rfl rfl ?_
    refine ar_getf (v := .ref 129) (q := 14) rfl rfl mk_113 rfl rfl ?_
    refine ar_iload_n (j := 2) (q := 15) rfl rfl rfl rfl ?_
    refine ar_iald (v := I 129 s) (q := 16) rfl mk_129 (am_inE rfl hx_1 (by decide)) (am_clE rfl hx_1 (by decide)) rfl ?_
    refine ar_iload_n (j := 1) (q := 17) rfl rfl rfl rfl ?_
    obtain ⟨hA, hB⟩ := h
    refine ar_br am_c_ne (t := 24) (q := 20) rfl rfl rfl (fun c_3 => ?_) (fun c_3 => ?_)
    · have h := hB c_3
      clear hA hB
      refine ar_iconst (v := 0) (q := 25) rfl rfl rfl ?_
      exact ar_zret rfl rfl (Or.inl rfl) h
    · have c_3 := Classical.not_not.mp c_3
      have h := hA c_3
      clear hA hB
      refine ar_iconst (v := 1) (q := 21) rfl rfl rfl ?_
      refine ar_goto (t := 25) rfl rfl ?_
      exact ar_zret rfl rfl (Or.inr rfl) h
theorem r_M_isFar_0 {d : Nat} {R : am_R} {I : Nat → Nat → Int32} {L : Nat → Nat → Int64} {a : Nat} {b : Nat} {x : Int32} (h : ∃ j_1 : Nat, j_1 < 100 ∧ (10 * (nI a)) + (nI b) = nI j_1 ∧ (((x < (((I 115 j_1) + 23) / 24) → (R (some (.int 1)) (am_mk I L, 0, 0))) ∧ (¬ x < (((I 115 j_1) + 23) / 24) → (R (some (.int 0)) (am_mk I L, 0, 0)))))) : am_Run am_X0 (am_meth d) 170 R 0 [some (.ref 113), some (.int (nI a)), some (.int (nI b)), some (.int x)] [] (am_mk I L, 0, 0) := by
  refine ar_iload_n (j := 3) (q := 1) rfl rfl rfl rfl ?_
  refine ar_aload_n (j := 0) (q := 2) rfl rfl rfl rfl ?_
  refine ar_getf (v := .ref 115) (q := 5) rfl rfl mk_113 rfl rfl ?_
  refine ar_bipush (v := 10) (q := 7) rfl rfl rfl ?_
  refine ar_iload_n (j := 1) (q := 8) rfl rfl rfl rfl ?_
  refine ar_ib (i := .imul) (z := 10 * (nI a)) (q := 9) rfl rfl rfl rfl rfl ?_
  refine ar_iload_n (j := 2) (q := 10) rfl rfl rfl rfl ?_
  refine ar_ib (i := .iadd) (z := (10 * (nI a)) + (nI b)) (q := 11) rfl rfl rfl rfl rfl ?_
  obtain ⟨j_1, hx_2, hi_3, h⟩ := h
  refine ar_iald (v := I 115 j_1) (q := 12) rfl mk_115 (am_inE hi_3 hx_2 (by decide)) (am_clE hi_3 hx_2 (by decide)) rfl ?_
  refine ar_bipush (v := 23) (q := 14) rfl rfl rfl ?_
  refine ar_ib (i := .iadd) (z := (I 115 j_1) + 23) (q := 15) rfl rfl rfl rfl rfl ?_
  refine ar_bipush (v := 24) (q := 17) rfl rfl rfl ?_
  refine ar_idiv (q := 18) rfl (by decide) rfl ?_
  obtain ⟨hA, hB⟩ := h
  refine ar_br am_d_ge (t := 25) (q := 21) rfl rfl rfl (fun c_4 => ?_) (fun c_4 => ?_)
  · have h := hB c_4
    clear hA hB
    refine ar_iconst (v := 0) (q := 26) rfl rfl rfl ?_
    exact ar_zret rfl rfl (Or.inl rfl) h
  · have c_4 := Classical.not_not.mp c_4
    have h := hA c_4
    clear hA hB
    refine ar_iconst (v := 1) (q := 22) rfl rfl rfl ?_
    refine ar_goto (t := 26) rfl rfl ?_
    exact ar_zret rfl rfl (Or.inr rfl) h
theorem r_M_goneOf_0 {d : Nat} {R : am_R} {I : Nat → Nat → Int32} {L : Nat → Nat → Int64} {s : Nat} (h : ∃ j_1 : Nat, j_1 < 120 ∧ 2 * (nI s) = nI j_1 ∧ ((((I 132 j_1) < 0 → (R (some (.int (-9 : Int32))) (am_mk I L, 0, 0))) ∧ (¬ (I 132 j_1) < 0 → (∃ j_5 : Nat, j_5 < 120 ∧ (2 * (nI s)) + 1 = nI j_5 ∧ ((((I 132 j_5) < 0 → (R (some (.int (-9 : Int32))) (am_mk I L, 0, 0))) ∧ (¬ (I 132 j_5) < 0 → (R (some (.int ((I 132 j_1) &&& ((I 132 j_5) ^^^ (-1 : Int32))))) (am_mk I L, 0, 0)))))))))) : am_Run am_X0 (am_meth d) 237 R 0 [some (.ref 113), some (.int (nI s))] [] (am_mk I L, 0, 0) := by
  refine ar_aload_n (j := 0) (q := 1) rfl rfl rfl rfl ?_
  refine ar_getf (v := .ref 132) (q := 4) rfl rfl mk_113 rfl rfl ?_
  refine ar_iconst (v := 2) (q := 5) rfl rfl rfl ?_
  refine ar_iload_n (j := 1) (q := 6) rfl rfl rfl rfl ?_
  refine ar_ib (i := .imul) (z := 2 * (nI s)) (q := 7) rfl rfl rfl rfl rfl ?_
  obtain ⟨j_1, hx_2, hi_3, h⟩ := h
  refine ar_iald (v := I 132 j_1) (q := 8) rfl mk_132 (am_inE hi_3 hx_2 (by decide)) (am_clE hi_3 hx_2 (by decide)) rfl ?_
  obtain ⟨hA, hB⟩ := h
  refine ar_b0 am_c_lt (t := 24) (q := 11) rfl rfl rfl (fun c_4 => ?_) (fun c_4 => ?_)
  · have h := hA c_4
    clear hA hB
    refine ar_bipush (v := (-9 : Int32)) (q := 26) rfl rfl rfl ?_
    exact ar_iret rfl rfl h
  · have h := hB c_4
    clear hA hB
    refine ar_aload_n (j := 0) (q := 12) rfl rfl rfl rfl ?_
    refine ar_getf (v := .ref 132) (q := 15) rfl rfl mk_113 rfl rfl ?_
    refine ar_iconst (v := 2) (q := 16) rfl rfl rfl ?_
    refine ar_iload_n (j := 1) (q := 17) rfl rfl rfl rfl ?_
    refine ar_ib (i := .imul) (z := 2 * (nI s)) (q := 18) rfl rfl rfl rfl rfl ?_
    refine ar_iconst (v := 1) (q := 19) rfl rfl rfl ?_
    refine ar_ib (i := .iadd) (z := (2 * (nI s)) + 1) (q := 20) rfl rfl rfl rfl rfl ?_
    obtain ⟨j_5, hx_6, hi_7, h⟩ := h
    refine ar_iald (v := I 132 j_5) (q := 21) rfl mk_132 (am_inE hi_7 hx_6 (by decide)) (am_clE hi_7 hx_6 (by decide)) rfl ?_
    obtain ⟨hA, hB⟩ := h
    refine ar_b0 am_d_ge (t := 27) (q := 24) rfl rfl rfl (fun c_8 => ?_) (fun c_8 => ?_)
    · have h := hB c_8
      clear hA hB
      refine ar_aload_n (j := 0) (q := 28) rfl rfl rfl rfl ?_
      refine ar_getf (v := .ref 132) (q := 31) rfl rfl mk_113 rfl rfl ?_
      refine ar_iconst (v := 2) (q := 32) rfl rfl rfl ?_
      refine ar_iload_n (j := 1) (q := 33) rfl rfl rfl rfl ?_
      refine ar_ib (i := .imul) (z := 2 * (nI s)) (q := 34) rfl rfl rfl rfl rfl ?_
      refine ar_iald (v := I 132 j_1) (q := 35) rfl mk_132 (am_inE hi_3 hx_2 (by decide)) (am_clE hi_3 hx_2 (by decide)) rfl ?_
      refine ar_aload_n (j := 0) (q := 36) rfl rfl rfl rfl ?_
      refine ar_getf (v := .ref 132) (q := 39) rfl rfl mk_113 rfl rfl ?_
      refine ar_iconst (v := 2) (q := 40) rfl rfl rfl ?_
      refine ar_iload_n (j := 1) (q := 41) rfl rfl rfl rfl ?_
      refine ar_ib (i := .imul) (z := 2 * (nI s)) (q := 42) rfl rfl rfl rfl rfl ?_
      refine ar_iconst (v := 1) (q := 43) rfl rfl rfl ?_
      refine ar_ib (i := .iadd) (z := (2 * (nI s)) + 1) (q := 44) rfl rfl rfl rfl rfl ?_
      refine ar_iald (v := I 132 j_5) (q := 45) rfl mk_132 (am_inE hi_7 hx_6 (by decide)) (am_clE hi_7 hx_6 (by decide)) rfl ?_
      refine ar_iconst (v := (-1 : Int32)) (q := 46) rfl rfl rfl ?_
      refine ar_ib (i := .ixor) (z := (I 132 j_5) ^^^ (-1 : Int32)) (q := 47) rfl rfl rfl rfl rfl ?_
      refine ar_ib (i := .iand) (z := (I 132 j_1) &&& ((I 132 j_5) ^^^ (-1 : Int32))) (q := 48) rfl rfl rfl rfl rfl ?_
      exact ar_iret rfl rfl h
    · have c_8 := Classical.not_not.mp c_8
      have h := hA c_8
      clear hA hB
      refine ar_bipush (v := (-9 : Int32)) (q := 26) rfl rfl rfl ?_
      exact ar_iret rfl rfl h
