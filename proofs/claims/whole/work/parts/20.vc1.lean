theorem r_Towns_hasTown_0 {d : Nat} {R : am_R} {I : Nat → Nat → Int32} {L : Nat → Nat → Int64} {x : Int32} (h : ((x < 0 → (R (some (.int 0)) (am_mk I L, 0, 0))) ∧ (¬ (x < 0) → (((10 ≤ x → (R (some (.int 0)) (am_mk I L, 0, 0))) ∧ (¬ (10 ≤ x) → (R (some (.int 1)) (am_mk I L, 0, 0)))))))) : am_Run am_X0 (am_meth d) 146 R 0 [some (.ref 2), some (.int x)] [] (am_mk I L, 0, 0) := by
  refine ar_iload_n (j := 1) (q := 1) rfl rfl rfl rfl ?_
  obtain ⟨hA, hB⟩ := h
  refine ar_b0 am_c_lt (t := 14) (q := 4) rfl rfl rfl (fun c_1 => ?_) (fun c_1 => ?_)
  · have h := hA c_1
    clear hA hB
    refine ar_iconst (v := 0) (q := 15) rfl rfl rfl ?_
    exact ar_zret rfl rfl (Or.inl rfl) h
  · have h := hB c_1
    clear hA hB
    refine ar_iload_n (j := 1) (q := 5) rfl rfl rfl rfl ?_
    refine ar_bipush (v := 10) (q := 7) rfl rfl rfl ?_
    obtain ⟨hA, hB⟩ := h
    refine ar_br am_c_ge (t := 14) (q := 10) rfl rfl rfl (fun c_2 => ?_) (fun c_2 => ?_)
    · have h := hA c_2
      clear hA hB
      refine ar_iconst (v := 0) (q := 15) rfl rfl rfl ?_
      exact ar_zret rfl rfl (Or.inl rfl) h
    · have h := hB c_2
      clear hA hB
      refine ar_iconst (v := 1) (q := 11) rfl rfl rfl ?_
      refine ar_goto (t := 15) rfl rfl ?_
      exact ar_zret rfl rfl (Or.inr rfl) h
theorem r_Towns_hasLand_0 {d : Nat} {R : am_R} {I : Nat → Nat → Int32} {L : Nat → Nat → Int64} {x : Int32} (h : ((x < 0 → (R (some (.int 0)) (am_mk I L, 0, 0))) ∧ (¬ (x < 0) → (((5 ≤ x → (R (some (.int 0)) (am_mk I L, 0, 0))) ∧ (¬ (5 ≤ x) → (R (some (.int 1)) (am_mk I L, 0, 0)))))))) : am_Run am_X0 (am_meth d) 147 R 0 [some (.ref 2), some (.int x)] [] (am_mk I L, 0, 0) := by
  refine ar_iload_n (j := 1) (q := 1) rfl rfl rfl rfl ?_
  obtain ⟨hA, hB⟩ := h
  refine ar_b0 am_c_lt (t := 13) (q := 4) rfl rfl rfl (fun c_1 => ?_) (fun c_1 => ?_)
  · have h := hA c_1
    clear hA hB
    refine ar_iconst (v := 0) (q := 14) rfl rfl rfl ?_
    exact ar_zret rfl rfl (Or.inl rfl) h
  · have h := hB c_1
    clear hA hB
    refine ar_iload_n (j := 1) (q := 5) rfl rfl rfl rfl ?_
    refine ar_iconst (v := 5) (q := 6) rfl rfl rfl ?_
    obtain ⟨hA, hB⟩ := h
    refine ar_br am_c_ge (t := 13) (q := 9) rfl rfl rfl (fun c_2 => ?_) (fun c_2 => ?_)
    · have h := hA c_2
      clear hA hB
      refine ar_iconst (v := 0) (q := 14) rfl rfl rfl ?_
      exact ar_zret rfl rfl (Or.inl rfl) h
    · have h := hB c_2
      clear hA hB
      refine ar_iconst (v := 1) (q := 10) rfl rfl rfl ?_
      refine ar_goto (t := 14) rfl rfl ?_
      exact ar_zret rfl rfl (Or.inr rfl) h
theorem r_Towns_daysBetween_0 {d : Nat} {R : am_R} {I : Nat → Nat → Int32} {L : Nat → Nat → Int64} {a : Nat} {b : Nat} (h : a < 10 ∧ (b < 10 ∧ (R (some (.int (((I (6 + a) b) + 23) / 24))) (am_mk I L, 0, 0)))) : am_Run am_X0 (am_meth d) 148 R 0 [some (.ref 2), some (.int (nI a)), some (.int (nI b))] [] (am_mk I L, 0, 0) := by
  refine ar_aload_n (j := 0) (q := 1) rfl rfl rfl rfl ?_
  refine ar_getf (v := .ref 5) (q := 4) rfl rfl mk_2 rfl rfl ?_
  refine ar_iload_n (j := 1) (q := 5) rfl rfl rfl rfl ?_
  obtain ⟨hx_1, h⟩ := h
  refine ar_aald (c2 := 6 + a) (q := 6) rfl mk_5 (am_inE rfl hx_1 (by decide)) (congrArg (fun z => some (6 + z)) (am_clT rfl hx_1 (by decide))) rfl ?_
  refine ar_iload_n (j := 2) (q := 7) rfl rfl rfl rfl ?_
  obtain ⟨hx_2, h⟩ := h
  refine ar_iald (v := I (6 + a) b) (q := 8) rfl (mk_g5 hx_1) (am_inE rfl hx_2 (by decide)) (am_clE rfl hx_2 (by decide)) rfl ?_
  refine ar_bipush (v := 23) (q := 10) rfl rfl rfl ?_
  refine ar_ib (i := .iadd) (z := (I (6 + a) b) + 23) (q := 11) rfl rfl rfl rfl rfl ?_
  refine ar_bipush (v := 24) (q := 13) rfl rfl rfl ?_
  refine ar_idiv (q := 14) rfl (by decide) rfl ?_
  exact ar_iret rfl rfl h
theorem r_Keepers_has_0 {d : Nat} {R : am_R} {I : Nat → Nat → Int32} {L : Nat → Nat → Int64} {x : Int32} (h : ((x < 0 → (R (some (.int 0)) (am_mk I L, 0, 0))) ∧ (¬ (x < 0) → ((((I 16 0) ≤ x → (R (some (.int 0)) (am_mk I L, 0, 0))) ∧ (¬ ((I 16 0) ≤ x) → (R (some (.int 1)) (am_mk I L, 0, 0)))))))) : am_Run am_X0 (am_meth d) 54 R 0 [some (.ref 16), some (.int x)] [] (am_mk I L, 0, 0) := by
  refine ar_iload_n (j := 1) (q := 1) rfl rfl rfl rfl ?_
  obtain ⟨hA, hB⟩ := h
  refine ar_b0 am_c_lt (t := 16) (q := 4) rfl rfl rfl (fun c_1 => ?_) (fun c_1 => ?_)
  · have h := hA c_1
    clear hA hB
    refine ar_iconst (v := 0) (q := 17) rfl rfl rfl ?_
    exact ar_zret rfl rfl (Or.inl rfl) h
  · have h := hB c_1
    clear hA hB
    refine ar_iload_n (j := 1) (q := 5) rfl rfl rfl rfl ?_
    refine ar_aload_n (j := 0) (q := 6) rfl rfl rfl rfl ?_
    refine ar_getf (v := .int (I 16 0)) (q := 9) rfl rfl mk_16 rfl rfl ?_
    obtain ⟨hA, hB⟩ := h
    refine ar_br am_c_ge (t := 16) (q := 12) rfl rfl rfl (fun c_2 => ?_) (fun c_2 => ?_)
    · have h := hA c_2
      clear hA hB
      refine ar_iconst (v := 0) (q := 17) rfl rfl rfl ?_
      exact ar_zret rfl rfl (Or.inl rfl) h
    · have h := hB c_2
      clear hA hB
      refine ar_iconst (v := 1) (q := 13) rfl rfl rfl ?_
      refine ar_goto (t := 17) rfl rfl ?_
      exact ar_zret rfl rfl (Or.inr rfl) h
theorem r_Keepers_add_0 {d : Nat} {R : am_R} {I : Nat → Nat → Int32} {L : Nat → Nat → Int64} {a : Int32} {b : Int32} {c : Int32} {e : Int32} (h : ∀ I_1 : Nat → Nat → Int32, I_1 = va_up I 16 (upd (I 16) 0 ((I 16 0) + 1)) → (∃ j_3 : Nat, j_3 < 20 ∧ I 16 0 = nI j_3 ∧ (∀ I_6 : Nat → Nat → Int32, I_6 = va_up I_1 17 (upd (I_1 17) j_3 a) → (∃ j_8 : Nat, j_8 < 20 ∧ I 16 0 = nI j_8 ∧ (∀ I_11 : Nat → Nat → Int32, I_11 = va_up I_6 18 (upd (I_6 18) j_8 b) → (∃ j_13 : Nat, j_13 < 20 ∧ I 16 0 = nI j_13 ∧ (∀ I_16 : Nat → Nat → Int32, I_16 = va_up I_11 19 (upd (I_11 19) j_13 c) → (∃ j_18 : Nat, j_18 < 20 ∧ I 16 0 = nI j_18 ∧ (∀ I_21 : Nat → Nat → Int32, I_21 = va_up I_16 20 (upd (I_16 20) j_18 e) → (R (some (.int (I 16 0))) (am_mk I_21 L, 0, 0))))))))))) : am_Run am_X0 (am_meth d) 53 R 0 [some (.ref 16), some (.int a), some (.int b), some (.int c), some (.int e), none] [] (am_mk I L, 0, 0) := by
  refine ar_aload_n (j := 0) (q := 1) rfl rfl rfl rfl ?_
  refine ar_st (i := .dup) (n := 1) (st' := [.ref 16, .ref 16]) (q := 2) rfl rfl rfl rfl ?_
  refine ar_getf (v := .int (I 16 0)) (q := 5) rfl rfl mk_16 rfl rfl ?_
  refine ar_st (i := .dup_x1) (n := 1) (st' := [.int (I 16 0), .ref 16, .int (I 16 0)]) (q := 6) rfl rfl rfl rfl ?_
  refine ar_iconst (v := 1) (q := 7) rfl rfl rfl ?_
  refine ar_ib (i := .iadd) (z := (I 16 0) + 1) (q := 8) rfl rfl rfl rfl rfl ?_
  obtain ⟨I_1, hI_2⟩ : ∃ z : Nat → Nat → Int32, z = va_up I 16 (upd (I 16) 0 ((I 16 0) + 1)) := ⟨_, rfl⟩
  have h := h I_1 hI_2
  refine ar_putf (hp2 := am_mk I_1 L) (q := 11) rfl rfl mk_16 rfl (by rw [hI_2]; exact mk_p16_0) rfl ?_
  refine ar_istore (ls' := [some (.ref 16), some (.int a), some (.int b), some (.int c), some (.int e), some (.int (I 16 0))]) (q := 13) rfl rfl rfl rfl ?_
  refine ar_aload_n (j := 0) (q := 14) rfl rfl rfl rfl ?_
  refine ar_getf (v := .ref 17) (q := 17) rfl rfl mk_16 rfl rfl ?_
  refine ar_iload (q := 19) rfl rfl rfl ?_
  refine ar_iload_n (j := 1) (q := 20) rfl rfl rfl rfl ?_
  obtain ⟨j_3, hx_4, hi_5, h⟩ := h
  obtain ⟨I_6, hI_7⟩ : ∃ z : Nat → Nat → Int32, z = va_up I_1 17 (upd (I_1 17) j_3 a) := ⟨_, rfl⟩
  have h := h I_6 hI_7
  refine ar_iast (hp2 := am_mk I_6 L) (q := 21) rfl mk_17 (am_inE hi_5 hx_4 (by decide)) (by rw [am_clT hi_5 hx_4 (by decide), hI_7]; exact mk_s17) rfl ?_
  refine ar_aload_n (j := 0) (q := 22) rfl rfl rfl rfl ?_
  refine ar_getf (v := .ref 18) (q := 25) rfl rfl mk_16 rfl rfl ?_
  refine ar_iload (q := 27) rfl rfl rfl ?_
  refine ar_iload_n (j := 2) (q := 28) rfl rfl rfl rfl ?_
  obtain ⟨j_8, hx_9, hi_10, h⟩ := h
  obtain ⟨I_11, hI_12⟩ : ∃ z : Nat → Nat → Int32, z = va_up I_6 18 (upd (I_6 18) j_8 b) := ⟨_, rfl⟩
  have h := h I_11 hI_12
  refine ar_iast (hp2 := am_mk I_11 L) (q := 29) rfl mk_18 (am_inE hi_10 hx_9 (by decide)) (by rw [am_clT hi_10 hx_9 (by decide), hI_12]; exact mk_s18) rfl ?_
  refine ar_aload_n (j := 0) (q := 30) rfl rfl rfl rfl ?_
  refine ar_getf (v := .ref 19) (q := 33) rfl rfl mk_16 rfl rfl ?_
  refine ar_iload (q := 35) rfl rfl rfl ?_
  refine ar_iload_n (j := 3) (q := 36) rfl rfl rfl rfl ?_
  obtain ⟨j_13, hx_14, hi_15, h⟩ := h
  obtain ⟨I_16, hI_17⟩ : ∃ z : Nat → Nat → Int32, z = va_up I_11 19 (upd (I_11 19) j_13 c) := ⟨_, rfl⟩
  have h := h I_16 hI_17
  refine ar_iast (hp2 := am_mk I_16 L) (q := 37) rfl mk_19 (am_inE hi_15 hx_14 (by decide)) (by rw [am_clT hi_15 hx_14 (by decide), hI_17]; exact mk_s19) rfl ?_
  refine ar_aload_n (j := 0) (q := 38) rfl rfl rfl rfl ?_
  refine ar_getf (v := .ref 20) (q := 41) rfl rfl mk_16 rfl rfl ?_
  refine ar_iload (q := 43) rfl rfl rfl ?_
  refine ar_iload (q := 45) rfl rfl rfl ?_
  obtain ⟨j_18, hx_19, hi_20, h⟩ := h
  obtain ⟨I_21, hI_22⟩ : ∃ z : Nat → Nat → Int32, z = va_up I_16 20 (upd (I_16 20) j_18 e) := ⟨_, rfl⟩
  have h := h I_21 hI_22
  refine ar_iast (hp2 := am_mk I_21 L) (q := 46) rfl mk_20 (am_inE hi_20 hx_19 (by decide)) (by rw [am_clT hi_20 hx_19 (by decide), hI_22]; exact mk_s20) rfl ?_
  refine ar_iload (q := 48) rfl rfl rfl ?_
  exact ar_iret rfl rfl h
theorem r_Houses_has_0 {d : Nat} {R : am_R} {I : Nat → Nat → Int32} {L : Nat → Nat → Int64} {x : Int32} (h : ((x < 0 → (R (some (.int 0)) (am_mk I L, 0, 0))) ∧ (¬ (x < 0) → ((((I 42 0) ≤ x → (R (some (.int 0)) (am_mk I L, 0, 0))) ∧ (¬ ((I 42 0) ≤ x) → (R (some (.int 1)) (am_mk I L, 0, 0)))))))) : am_Run am_X0 (am_meth d) 50 R 0 [some (.ref 42), some (.int x)] [] (am_mk I L, 0, 0) := by
  refine ar_iload_n (j := 1) (q := 1) rfl rfl rfl rfl ?_
  obtain ⟨hA, hB⟩ := h
  refine ar_b0 am_c_lt (t := 16) (q := 4) rfl rfl rfl (fun c_1 => ?_) (fun c_1 => ?_)
  · have h := hA c_1
    clear hA hB
    refine ar_iconst (v := 0) (q := 17) rfl rfl rfl ?_
    exact ar_zret rfl rfl (Or.inl rfl) h
  · have h := hB c_1
    clear hA hB
    refine ar_iload_n (j := 1) (q := 5) rfl rfl rfl rfl ?_
    refine ar_aload_n (j := 0) (q := 6) rfl rfl rfl rfl ?_
    refine ar_getf (v := .int (I 42 0)) (q := 9) rfl rfl mk_42 rfl rfl ?_
    obtain ⟨hA, hB⟩ := h
    refine ar_br am_c_ge (t := 16) (q := 12) rfl rfl rfl (fun c_2 => ?_) (fun c_2 => ?_)
    · have h := hA c_2
      clear hA hB
      refine ar_iconst (v := 0) (q := 17) rfl rfl rfl ?_
      exact ar_zret rfl rfl (Or.inl rfl) h
    · have h := hB c_2
      clear hA hB
      refine ar_iconst (v := 1) (q := 13) rfl rfl rfl ?_
      refine ar_goto (t := 17) rfl rfl ?_
      exact ar_zret rfl rfl (Or.inr rfl) h
theorem r_Houses_add_0 {d : Nat} {R : am_R} {I : Nat → Nat → Int32} {L : Nat → Nat → Int64} {a : Int32} {b : Int32} (h : ∀ I_1 : Nat → Nat → Int32, I_1 = va_up I 42 (upd (I 42) 0 ((I 42 0) + 1)) → (∃ j_3 : Nat, j_3 < 20 ∧ I 42 0 = nI j_3 ∧ (∀ I_6 : Nat → Nat → Int32, I_6 = va_up I_1 43 (upd (I_1 43) j_3 a) → (∃ j_8 : Nat, j_8 < 20 ∧ I 42 0 = nI j_8 ∧ (∀ I_11 : Nat → Nat → Int32, I_11 = va_up I_6 44 (upd (I_6 44) j_8 b) → (R (some (.int (I 42 0))) (am_mk I_11 L, 0, 0))))))) : am_Run am_X0 (am_meth d) 49 R 0 [some (.ref 42), some (.int a), some (.int b), none] [] (am_mk I L, 0, 0) := by
  refine ar_aload_n (j := 0) (q := 1) rfl rfl rfl rfl ?_
  refine ar_st (i := .dup) (n := 1) (st' := [.ref 42, .ref 42]) (q := 2) rfl rfl rfl rfl ?_
  refine ar_getf (v := .int (I 42 0)) (q := 5) rfl rfl mk_42 rfl rfl ?_
  refine ar_st (i := .dup_x1) (n := 1) (st' := [.int (I 42 0), .ref 42, .int (I 42 0)]) (q := 6) rfl rfl rfl rfl ?_
  refine ar_iconst (v := 1) (q := 7) rfl rfl rfl ?_
  refine ar_ib (i := .iadd) (z := (I 42 0) + 1) (q := 8) rfl rfl rfl rfl rfl ?_
  obtain ⟨I_1, hI_2⟩ : ∃ z : Nat → Nat → Int32, z = va_up I 42 (upd (I 42) 0 ((I 42 0) + 1)) := ⟨_, rfl⟩
  have h := h I_1 hI_2
  refine ar_putf (hp2 := am_mk I_1 L) (q := 11) rfl rfl mk_42 rfl (by rw [hI_2]; exact mk_p42_0) rfl ?_
  refine ar_istore_n (j := 3) (ls' := [some (.ref 42), some (.int a), some (.int b), some (.int (I 42 0))]) (q := 12) rfl rfl rfl rfl rfl ?_
  refine ar_aload_n (j := 0) (q := 13) rfl rfl rfl rfl ?_
  refine ar_getf (v := .ref 43) (q := 16) rfl rfl mk_42 rfl rfl ?_
  refine ar_iload_n (j := 3) (q := 17) rfl rfl rfl rfl ?_
  refine ar_iload_n (j := 1) (q := 18) rfl rfl rfl rfl ?_
  obtain ⟨j_3, hx_4, hi_5, h⟩ := h
  obtain ⟨I_6, hI_7⟩ : ∃ z : Nat → Nat → Int32, z = va_up I_1 43 (upd (I_1 43) j_3 a) := ⟨_, rfl⟩
  have h := h I_6 hI_7
  refine ar_iast (hp2 := am_mk I_6 L) (q := 19) rfl mk_43 (am_inE hi_5 hx_4 (by decide)) (by rw [am_clT hi_5 hx_4 (by decide), hI_7]; exact mk_s43) rfl ?_
  refine ar_aload_n (j := 0) (q := 20) rfl rfl rfl rfl ?_
  refine ar_getf (v := .ref 44) (q := 23) rfl rfl mk_42 rfl rfl ?_
  refine ar_iload_n (j := 3) (q := 24) rfl rfl rfl rfl ?_
  refine ar_iload_n (j := 2) (q := 25) rfl rfl rfl rfl ?_
  obtain ⟨j_8, hx_9, hi_10, h⟩ := h
  obtain ⟨I_11, hI_12⟩ : ∃ z : Nat → Nat → Int32, z = va_up I_6 44 (upd (I_6 44) j_8 b) := ⟨_, rfl⟩
  have h := h I_11 hI_12
  refine ar_iast (hp2 := am_mk I_11 L) (q := 26) rfl mk_44 (am_inE hi_10 hx_9 (by decide)) (by rw [am_clT hi_10 hx_9 (by decide), hI_12]; exact mk_s44) rfl ?_
  refine ar_iload_n (j := 3) (q := 27) rfl rfl rfl rfl ?_
  exact ar_iret rfl rfl h
theorem r_Stays_has_0 {d : Nat} {R : am_R} {I : Nat → Nat → Int32} {L : Nat → Nat → Int64} {x : Int32} (h : ((x < 0 → (R (some (.int 0)) (am_mk I L, 0, 0))) ∧ (¬ (x < 0) → ((((I 66 1) ≤ x → (R (some (.int 0)) (am_mk I L, 0, 0))) ∧ (¬ ((I 66 1) ≤ x) → (R (some (.int 1)) (am_mk I L, 0, 0)))))))) : am_Run am_X0 (am_meth d) 118 R 0 [some (.ref 66), some (.int x)] [] (am_mk I L, 0, 0) := by
  refine ar_iload_n (j := 1) (q := 1) rfl rfl rfl rfl ?_
  obtain ⟨hA, hB⟩ := h
  refine ar_b0 am_c_lt (t := 16) (q := 4) rfl rfl rfl (fun c_1 => ?_) (fun c_1 => ?_)
  · have h := hA c_1
    clear hA hB
    refine ar_iconst (v := 0) (q := 17) rfl rfl rfl ?_
    exact ar_zret rfl rfl (Or.inl rfl) h
  · have h := hB c_1
    clear hA hB
    refine ar_iload_n (j := 1) (q := 5) rfl rfl rfl rfl ?_
    refine ar_aload_n (j := 0) (q := 6) rfl rfl rfl rfl ?_
    refine ar_getf (v := .int (I 66 1)) (q := 9) rfl rfl mk_66 rfl rfl ?_
    obtain ⟨hA, hB⟩ := h
    refine ar_br am_c_ge (t := 16) (q := 12) rfl rfl rfl (fun c_2 => ?_) (fun c_2 => ?_)
    · have h := hA c_2
      clear hA hB
      refine ar_iconst (v := 0) (q := 17) rfl rfl rfl ?_
      exact ar_zret rfl rfl (Or.inl rfl) h
    · have h := hB c_2
      clear hA hB
      refine ar_iconst (v := 1) (q := 13) rfl rfl rfl ?_
      refine ar_goto (t := 17) rfl rfl ?_
      exact ar_zret rfl rfl (Or.inr rfl) h
theorem r_Stays_add_0 {d : Nat} {R : am_R} {I : Nat → Nat → Int32} {L : Nat → Nat → Int64} {a : Int32} {b : Int32} {c : Int32} (h : ∀ I_1 : Nat → Nat → Int32, I_1 = va_up I 66 (upd (I 66) 1 ((I 66 1) + 1)) → (∃ j_3 : Nat, j_3 < 60 ∧ I 66 1 = nI j_3 ∧ (∀ I_6 : Nat → Nat → Int32, I_6 = va_up I_1 67 (upd (I_1 67) j_3 a) → (∃ j_8 : Nat, j_8 < 60 ∧ I 66 1 = nI j_8 ∧ (∀ I_11 : Nat → Nat → Int32, I_11 = va_up I_6 68 (upd (I_6 68) j_8 b) → (∃ j_13 : Nat, j_13 < 60 ∧ I 66 1 = nI j_13 ∧ (∀ I_16 : Nat → Nat → Int32, I_16 = va_up I_11 69 (upd (I_11 69) j_13 c) → (R (some (.int (I 66 1))) (am_mk I_16 L, 0, 0))))))))) : am_Run am_X0 (am_meth d) 117 R 0 [some (.ref 66), some (.int a), some (.int b), some (.int c), none] [] (am_mk I L, 0, 0) := by
  refine ar_aload_n (j := 0) (q := 1) rfl rfl rfl rfl ?_
  refine ar_st (i := .dup) (n := 1) (st' := [.ref 66, .ref 66]) (q := 2) rfl rfl rfl rfl ?_
  refine ar_getf (v := .int (I 66 1)) (q := 5) rfl rfl mk_66 rfl rfl ?_
  refine ar_st (i := .dup_x1) (n := 1) (st' := [.int (I 66 1), .ref 66, .int (I 66 1)]) (q := 6) rfl rfl rfl rfl ?_
  refine ar_iconst (v := 1) (q := 7) rfl rfl rfl ?_
  refine ar_ib (i := .iadd) (z := (I 66 1) + 1) (q := 8) rfl rfl rfl rfl rfl ?_
  obtain ⟨I_1, hI_2⟩ : ∃ z : Nat → Nat → Int32, z = va_up I 66 (upd (I 66) 1 ((I 66 1) + 1)) := ⟨_, rfl⟩
  have h := h I_1 hI_2
  refine ar_putf (hp2 := am_mk I_1 L) (q := 11) rfl rfl mk_66 rfl (by rw [hI_2]; exact mk_p66_1) rfl ?_
  refine ar_istore (ls' := [some (.ref 66), some (.int a), some (.int b), some (.int c), some (.int (I 66 1))]) (q := 13) rfl rfl rfl rfl ?_
  refine ar_aload_n (j := 0) (q := 14) rfl rfl rfl rfl ?_
  refine ar_getf (v := .ref 67) (q := 17) rfl rfl mk_66 rfl rfl ?_
  refine ar_iload (q := 19) rfl rfl rfl ?_
  refine ar_iload_n (j := 1) (q := 20) rfl rfl rfl rfl ?_
  obtain ⟨j_3, hx_4, hi_5, h⟩ := h
  obtain ⟨I_6, hI_7⟩ : ∃ z : Nat → Nat → Int32, z = va_up I_1 67 (upd (I_1 67) j_3 a) := ⟨_, rfl⟩
  have h := h I_6 hI_7
  refine ar_iast (hp2 := am_mk I_6 L) (q := 21) rfl mk_67 (am_inE hi_5 hx_4 (by decide)) (by rw [am_clT hi_5 hx_4 (by decide), hI_7]; exact mk_s67) rfl ?_
  refine ar_aload_n (j := 0) (q := 22) rfl rfl rfl rfl ?_
  refine ar_getf (v := .ref 68) (q := 25) rfl rfl mk_66 rfl rfl ?_
  refine ar_iload (q := 27) rfl rfl rfl ?_
  refine ar_iload_n (j := 2) (q := 28) rfl rfl rfl rfl ?_
  obtain ⟨j_8, hx_9, hi_10, h⟩ := h
  obtain ⟨I_11, hI_12⟩ : ∃ z : Nat → Nat → Int32, z = va_up I_6 68 (upd (I_6 68) j_8 b) := ⟨_, rfl⟩
  have h := h I_11 hI_12
  refine ar_iast (hp2 := am_mk I_11 L) (q := 29) rfl mk_68 (am_inE hi_10 hx_9 (by decide)) (by rw [am_clT hi_10 hx_9 (by decide), hI_12]; exact mk_s68) rfl ?_
  refine ar_aload_n (j := 0) (q := 30) rfl rfl rfl rfl ?_
  refine ar_getf (v := .ref 69) (q := 33) rfl rfl mk_66 rfl rfl ?_
  refine ar_iload (q := 35) rfl rfl rfl ?_
  refine ar_iload_n (j := 3) (q := 36) rfl rfl rfl rfl ?_
  obtain ⟨j_13, hx_14, hi_15, h⟩ := h
  obtain ⟨I_16, hI_17⟩ : ∃ z : Nat → Nat → Int32, z = va_up I_11 69 (upd (I_11 69) j_13 c) := ⟨_, rfl⟩
  have h := h I_16 hI_17
  refine ar_iast (hp2 := am_mk I_16 L) (q := 37) rfl mk_69 (am_inE hi_15 hx_14 (by decide)) (by rw [am_clT hi_15 hx_14 (by decide), hI_17]; exact mk_s69) rfl ?_
  refine ar_iload (q := 39) rfl rfl rfl ?_
  exact ar_iret rfl rfl h
theorem r_Stays_isOver_0 {d : Nat} {R : am_R} {I : Nat → Nat → Int32} {L : Nat → Nat → Int64} {s : Nat} (h : s < 60 ∧ ((((I 66 0) ≤ (I 69 s) → (R (some (.int 0)) (am_mk I L, 0, 0))) ∧ (¬ ((I 66 0) ≤ (I 69 s)) → (R (some (.int 1)) (am_mk I L, 0, 0)))))) : am_Run am_X0 (am_meth d) 119 R 0 [some (.ref 66), some (.int (nI s))] [] (am_mk I L, 0, 0) := by
  refine ar_aload_n (j := 0) (q := 1) rfl rfl rfl rfl ?_
  refine ar_getf (v := .ref 69) (q := 4) rfl rfl mk_66 rfl rfl ?_
  refine ar_iload_n (j := 1) (q := 5) rfl rfl rfl rfl ?_
  obtain ⟨hx_1, h⟩ := h
  refine ar_iald (v := I 69 s) (q := 6) rfl mk_69 (am_inE rfl hx_1 (by decide)) (am_clE rfl hx_1 (by decide)) rfl ?_
  refine ar_aload_n (j := 0) (q := 7) rfl rfl rfl rfl ?_
  refine ar_getf (v := .int (I 66 0)) (q := 10) rfl rfl mk_66 rfl rfl ?_
  obtain ⟨hA, hB⟩ := h
  refine ar_br am_c_ge (t := 17) (q := 13) rfl rfl rfl (fun c_2 => ?_) (fun c_2 => ?_)
  · have h := hA c_2
    clear hA hB
    refine ar_iconst (v := 0) (q := 18) rfl rfl rfl ?_
    exact ar_zret rfl rfl (Or.inl rfl) h
  · have h := hB c_2
    clear hA hB
    refine ar_iconst (v := 1) (q := 14) rfl rfl rfl ?_
    refine ar_goto (t := 18) rfl rfl ?_
    exact ar_zret rfl rfl (Or.inr rfl) h
theorem r_Stays_isTakenBy_0 {d : Nat} {R : am_R} {I : Nat → Nat → Int32} {L : Nat → Nat → Int64} {s : Nat} {w : Int32} (h : s < 60 ∧ (((¬ (I 70 s) = 1 → (R (some (.int 0)) (am_mk I L, 0, 0))) ∧ (¬ (¬ (I 70 s) = 1) → (s < 60 ∧ (((¬ (I 71 s) = w → (R (some (.int 0)) (am_mk I L, 0, 0))) ∧ (¬ (¬ (I 71 s) = w) → (R (some (.int 1)) (am_mk I L, 0, 0)))))))))) : am_Run am_X0 (am_meth d) 120 R 0 [some (.ref 66), some (.int (nI s)), some (.int w)] [] (am_mk I L, 0, 0) := by
  refine ar_aload_n (j := 0) (q := 1) rfl rfl rfl rfl ?_
  refine ar_getf (v := .ref 70) (q := 4) rfl rfl mk_66 rfl rfl ?_
  refine ar_iload_n (j := 1) (q := 5) rfl rfl rfl rfl ?_
  obtain ⟨hx_1, h⟩ := h
  refine ar_iald (v := I 70 s) (q := 6) rfl mk_70 (am_inE rfl hx_1 (by decide)) (am_clE rfl hx_1 (by decide)) rfl ?_
  refine ar_iconst (v := 1) (q := 7) rfl rfl rfl ?_
  obtain ⟨hA, hB⟩ := h
  refine ar_br am_c_ne (t := 24) (q := 10) rfl rfl rfl (fun c_2 => ?_) (fun c_2 => ?_)
  · have h := hA c_2
    clear hA hB
    refine ar_iconst (v := 0) (q := 25) rfl rfl rfl ?_
    exact ar_zret rfl rfl (Or.inl rfl) h
  · have h := hB c_2
    clear hA hB
    refine ar_aload_n (j := 0) (q := 11) rfl rfl rfl rfl ?_
    refine ar_getf (v := .ref 71) (q := 14) rfl rfl mk_66 rfl rfl ?_
    refine ar_iload_n (j := 1) (q := 15) rfl rfl rfl rfl ?_
    obtain ⟨hx_3, h⟩ := h
    refine ar_iald (v := I 71 s) (q := 16) rfl mk_71 (am_inE rfl hx_3 (by decide)) (am_clE rfl hx_3 (by decide)) rfl ?_
    refine ar_iload_n (j := 2) (q := 17) rfl rfl rfl rfl ?_
    obtain ⟨hA, hB⟩ := h
    refine ar_br am_c_ne (t := 24) (q := 20) rfl rfl rfl (fun c_4 => ?_) (fun c_4 => ?_)
    · have h := hA c_4
      clear hA hB
      refine ar_iconst (v := 0) (q := 25) rfl rfl rfl ?_
      exact ar_zret rfl rfl (Or.inl rfl) h
    · have h := hB c_4
      clear hA hB
      refine ar_iconst (v := 1) (q := 21) rfl rfl rfl ?_
      refine ar_goto (t := 25) rfl rfl ?_
      exact ar_zret rfl rfl (Or.inr rfl) h
theorem r_Stays_lengthOf_0 {d : Nat} {R : am_R} {I : Nat → Nat → Int32} {L : Nat → Nat → Int64} {s : Nat} (h : s < 60 ∧ (s < 60 ∧ (R (some (.int (((I 69 s) - (I 68 s)) + 1))) (am_mk I L, 0, 0)))) : am_Run am_X0 (am_meth d) 121 R 0 [some (.ref 66), some (.int (nI s))] [] (am_mk I L, 0, 0) := by
  refine ar_aload_n (j := 0) (q := 1) rfl rfl rfl rfl ?_
  refine ar_getf (v := .ref 69) (q := 4) rfl rfl mk_66 rfl rfl ?_
  refine ar_iload_n (j := 1) (q := 5) rfl rfl rfl rfl ?_
  obtain ⟨hx_1, h⟩ := h
  refine ar_iald (v := I 69 s) (q := 6) rfl mk_69 (am_inE rfl hx_1 (by decide)) (am_clE rfl hx_1 (by decide)) rfl ?_
  refine ar_aload_n (j := 0) (q := 7) rfl rfl rfl rfl ?_
  refine ar_getf (v := .ref 68) (q := 10) rfl rfl mk_66 rfl rfl ?_
  refine ar_iload_n (j := 1) (q := 11) rfl rfl rfl rfl ?_
  obtain ⟨hx_2, h⟩ := h
  refine ar_iald (v := I 68 s) (q := 12) rfl mk_68 (am_inE rfl hx_2 (by decide)) (am_clE rfl hx_2 (by decide)) rfl ?_
  refine ar_ib (i := .isub) (z := (I 69 s) - (I 68 s)) (q := 13) rfl rfl rfl rfl rfl ?_
  refine ar_iconst (v := 1) (q := 14) rfl rfl rfl ?_
  refine ar_ib (i := .iadd) (z := ((I 69 s) - (I 68 s)) + 1) (q := 15) rfl rfl rfl rfl rfl ?_
  exact ar_iret rfl rfl h
theorem r_Stays_daysWithin_0 {d : Nat} (hd : 1 ≤ d) {R : am_R} {I : Nat → Nat → Int32} {L : Nat → Nat → Int64} {s : Nat} {a : Int32} {b : Int32} (h : s < 60 ∧ (s < 60 ∧ (R (some (.int (if ((if b < I 69 s then b else I 69 s) - (if I 68 s < a then a else I 68 s)) + 1 < 0 then 0 else ((if b < I 69 s then b else I 69 s) - (if I 68 s < a then a else I 68 s)) + 1))) (am_mk I L, 0, 0)))) : am_Run am_X0 (am_meth d) 116 R 0 [some (.ref 66), some (.int (nI s)), some (.int a), some (.int b), none, none] [] (am_mk I L, 0, 0) := by
  refine ar_aload_n (j := 0) (q := 1) rfl rfl rfl rfl ?_
  refine ar_getf (v := .ref 68) (q := 4) rfl rfl mk_66 rfl rfl ?_
  refine ar_iload_n (j := 1) (q := 5) rfl rfl rfl rfl ?_
  obtain ⟨hx_1, h⟩ := h
  refine ar_iald (v := I 68 s) (q := 6) rfl mk_68 (am_inE rfl hx_1 (by decide)) (am_clE rfl hx_1 (by decide)) rfl ?_
  refine ar_iload_n (j := 2) (q := 7) rfl rfl rfl rfl ?_
  refine ar_invs (as := [.int (I 68 s), .int a]) (rest := []) (b2 := (0, 0)) (b3 := (0, 0)) (q := 10) rfl rfl rfl rfl rfl rfl rfl rfl rfl ?_
  obtain ⟨d9, rfl⟩ : ∃ d9, d = d9 + 1 := ⟨d - 1, by omega⟩
  refine ar_max ?_
  show am_Run am_X0 (am_meth (d9 + 1)) 116 R 10 [some (.ref 66), some (.int (nI s)), some (.int a), some (.int b), none, none] [.int (if I 68 s < a then a else I 68 s)] (am_mk I L, 0, 0)
  generalize hd9 : d9 + 1 = d at *
  refine ar_istore (ls' := [some (.ref 66), some (.int (nI s)), some (.int a), some (.int b), some (.int (if I 68 s < a then a else I 68 s)), none]) (q := 12) rfl rfl rfl rfl ?_
  refine ar_aload_n (j := 0) (q := 13) rfl rfl rfl rfl ?_
  refine ar_getf (v := .ref 69) (q := 16) rfl rfl mk_66 rfl rfl ?_
  refine ar_iload_n (j := 1) (q := 17) rfl rfl rfl rfl ?_
  obtain ⟨hx_2, h⟩ := h
  refine ar_iald (v := I 69 s) (q := 18) rfl mk_69 (am_inE rfl hx_2 (by decide)) (am_clE rfl hx_2 (by decide)) rfl ?_
  refine ar_iload_n (j := 3) (q := 19) rfl rfl rfl rfl ?_
  refine ar_invs (as := [.int (I 69 s), .int b]) (rest := []) (b2 := (0, 0)) (b3 := (0, 0)) (q := 22) rfl rfl rfl rfl rfl rfl rfl rfl rfl ?_
  obtain ⟨d9, rfl⟩ : ∃ d9, d = d9 + 1 := ⟨d - 1, by omega⟩
  refine ar_min ?_
  show am_Run am_X0 (am_meth (d9 + 1)) 116 R 22 [some (.ref 66), some (.int (nI s)), some (.int a), some (.int b), some (.int (if I 68 s < a then a else I 68 s)), none] [.int (if b < I 69 s then b else I 69 s)] (am_mk I L, 0, 0)
  generalize hd9 : d9 + 1 = d at *
  refine ar_istore (ls' := [some (.ref 66), some (.int (nI s)), some (.int a), some (.int b), some (.int (if I 68 s < a then a else I 68 s)), some (.int (if b < I 69 s then b else I 69 s))]) (q := 24) rfl rfl rfl rfl ?_
  refine ar_iload (q := 26) rfl rfl rfl ?_
  refine ar_iload (q := 28) rfl rfl rfl ?_
  refine ar_ib (i := .isub) (z := (if b < I 69 s then b else I 69 s) - (if I 68 s < a then a else I 68 s)) (q := 29) rfl rfl rfl rfl rfl ?_
  refine ar_iconst (v := 1) (q := 30) rfl rfl rfl ?_
  refine ar_ib (i := .iadd) (z := ((if b < I 69 s then b else I 69 s) - (if I 68 s < a then a else I 68 s)) + 1) (q := 31) rfl rfl rfl rfl rfl ?_
  refine ar_iconst (v := 0) (q := 32) rfl rfl rfl ?_
  refine ar_invs (as := [.int (((if b < I 69 s then b else I 69 s) - (if I 68 s < a then a else I 68 s)) + 1), .int 0]) (rest := []) (b2 := (0, 0)) (b3 := (0, 0)) (q := 35) rfl rfl rfl rfl rfl rfl rfl rfl rfl ?_
  obtain ⟨d9, rfl⟩ : ∃ d9, d = d9 + 1 := ⟨d - 1, by omega⟩
  refine ar_max ?_
  show am_Run am_X0 (am_meth (d9 + 1)) 116 R 35 [some (.ref 66), some (.int (nI s)), some (.int a), some (.int b), some (.int (if I 68 s < a then a else I 68 s)), some (.int (if b < I 69 s then b else I 69 s))] [.int (if ((if b < I 69 s then b else I 69 s) - (if I 68 s < a then a else I 68 s)) + 1 < 0 then 0 else ((if b < I 69 s then b else I 69 s) - (if I 68 s < a then a else I 68 s)) + 1)] (am_mk I L, 0, 0)
  generalize hd9 : d9 + 1 = d at *
  exact ar_iret rfl rfl h
theorem r_Stays_hasBothLists_0 {d : Nat} {R : am_R} {I : Nat → Nat → Int32} {L : Nat → Nat → Int64} {s : Nat} (h : s < 60 ∧ ((((I 72 s) = (-1 : Int32) → (R (some (.int 0)) (am_mk I L, 0, 0))) ∧ (¬ ((I 72 s) = (-1 : Int32)) → (s < 60 ∧ ((((I 73 s) = (-1 : Int32) → (R (some (.int 0)) (am_mk I L, 0, 0))) ∧ (¬ ((I 73 s) = (-1 : Int32)) → (R (some (.int 1)) (am_mk I L, 0, 0)))))))))) : am_Run am_X0 (am_meth d) 122 R 0 [some (.ref 66), some (.int (nI s))] [] (am_mk I L, 0, 0) := by
  refine ar_aload_n (j := 0) (q := 1) rfl rfl rfl rfl ?_
  refine ar_getf (v := .ref 72) (q := 4) rfl rfl mk_66 rfl rfl ?_
  refine ar_iload_n (j := 1) (q := 5) rfl rfl rfl rfl ?_
  obtain ⟨hx_1, h⟩ := h
  refine ar_iald (v := I 72 s) (q := 6) rfl mk_72 (am_inE rfl hx_1 (by decide)) (am_clE rfl hx_1 (by decide)) rfl ?_
  refine ar_iconst (v := (-1 : Int32)) (q := 7) rfl rfl rfl ?_
  obtain ⟨hA, hB⟩ := h
  refine ar_br am_c_eq (t := 24) (q := 10) rfl rfl rfl (fun c_2 => ?_) (fun c_2 => ?_)
  · have h := hA c_2
    clear hA hB
    refine ar_iconst (v := 0) (q := 25) rfl rfl rfl ?_
    exact ar_zret rfl rfl (Or.inl rfl) h
  · have h := hB c_2
    clear hA hB
    refine ar_aload_n (j := 0) (q := 11) rfl rfl rfl rfl ?_
    refine ar_getf (v := .ref 73) (q := 14) rfl rfl mk_66 rfl rfl ?_
    refine ar_iload_n (j := 1) (q := 15) rfl rfl rfl rfl ?_
    obtain ⟨hx_3, h⟩ := h
    refine ar_iald (v := I 73 s) (q := 16) rfl mk_73 (am_inE rfl hx_3 (by decide)) (am_clE rfl hx_3 (by decide)) rfl ?_
    refine ar_iconst (v := (-1 : Int32)) (q := 17) rfl rfl rfl ?_
    obtain ⟨hA, hB⟩ := h
    refine ar_br am_c_eq (t := 24) (q := 20) rfl rfl rfl (fun c_4 => ?_) (fun c_4 => ?_)
    · have h := hA c_4
      clear hA hB
      refine ar_iconst (v := 0) (q := 25) rfl rfl rfl ?_
      exact ar_zret rfl rfl (Or.inl rfl) h
    · have h := hB c_4
      clear hA hB
      refine ar_iconst (v := 1) (q := 21) rfl rfl rfl ?_
      refine ar_goto (t := 25) rfl rfl ?_
      exact ar_zret rfl rfl (Or.inr rfl) h
theorem r_Stays_itemsGone_0 {d : Nat} {R : am_R} {I : Nat → Nat → Int32} {L : Nat → Nat → Int64} {s : Nat} (h : s < 60 ∧ (s < 60 ∧ (R (some (.int ((I 72 s) &&& ((I 73 s) ^^^ (-1 : Int32))))) (am_mk I L, 0, 0)))) : am_Run am_X0 (am_meth d) 123 R 0 [some (.ref 66), some (.int (nI s))] [] (am_mk I L, 0, 0) := by
  refine ar_aload_n (j := 0) (q := 1) rfl rfl rfl rfl ?_
  refine ar_getf (v := .ref 72) (q := 4) rfl rfl mk_66 rfl rfl ?_
  refine ar_iload_n (j := 1) (q := 5) rfl rfl rfl rfl ?_
  obtain ⟨hx_1, h⟩ := h
  refine ar_iald (v := I 72 s) (q := 6) rfl mk_72 (am_inE rfl hx_1 (by decide)) (am_clE rfl hx_1 (by decide)) rfl ?_
  refine ar_aload_n (j := 0) (q := 7) rfl rfl rfl rfl ?_
  refine ar_getf (v := .ref 73) (q := 10) rfl rfl mk_66 rfl rfl ?_
  refine ar_iload_n (j := 1) (q := 11) rfl rfl rfl rfl ?_
  obtain ⟨hx_2, h⟩ := h
  refine ar_iald (v := I 73 s) (q := 12) rfl mk_73 (am_inE rfl hx_2 (by decide)) (am_clE rfl hx_2 (by decide)) rfl ?_
  refine ar_iconst (v := (-1 : Int32)) (q := 13) rfl rfl rfl ?_
  refine ar_ib (i := .ixor) (z := (I 73 s) ^^^ (-1 : Int32)) (q := 14) rfl rfl rfl rfl rfl ?_
  refine ar_ib (i := .iand) (z := (I 72 s) &&& ((I 73 s) ^^^ (-1 : Int32))) (q := 15) rfl rfl rfl rfl rfl ?_
  exact ar_iret rfl rfl h
theorem r_Row_hasRoomFor_tape_0 {d : Nat} {R : am_R} {I : Nat → Nat → Int32} {L : Nat → Nat → Int64} {x : Int32} (h : (((60 - (I 91 0)) < x → (R (some (.int 0)) (am_mk I L, 0, 0))) ∧ (¬ ((60 - (I 91 0)) < x) → (R (some (.int 1)) (am_mk I L, 0, 0))))) : am_Run am_X0 (am_meth d) 86 R 0 [some (.ref 91), some (.int x)] [] (am_mk I L, 0, 0) := by
  refine ar_iload_n (j := 1) (q := 1) rfl rfl rfl rfl ?_
  refine ar_aload_n (j := 0) (q := 2) rfl rfl rfl rfl ?_
  refine ar_getf (v := .ref 92) (q := 5) rfl rfl mk_91 rfl rfl ?_
  refine ar_st (i := .arraylength) (n := 1) (st' := [.int 60, .int x]) (q := 6) rfl rfl rfl rfl ?_
  refine ar_aload_n (j := 0) (q := 7) rfl rfl rfl rfl ?_
  refine ar_getf (v := .int (I 91 0)) (q := 10) rfl rfl mk_91 rfl rfl ?_
  refine ar_ib (i := .isub) (z := 60 - (I 91 0)) (q := 11) rfl rfl rfl rfl rfl ?_
  obtain ⟨hA, hB⟩ := h
  refine ar_br am_c_gt (t := 18) (q := 14) rfl rfl rfl (fun c_1 => ?_) (fun c_1 => ?_)
  · have h := hA c_1
    clear hA hB
    refine ar_iconst (v := 0) (q := 19) rfl rfl rfl ?_
    exact ar_zret rfl rfl (Or.inl rfl) h
  · have h := hB c_1
    clear hA hB
    refine ar_iconst (v := 1) (q := 15) rfl rfl rfl ?_
    refine ar_goto (t := 19) rfl rfl ?_
    exact ar_zret rfl rfl (Or.inr rfl) h
theorem r_Row_add_tape_0 {d : Nat} {R : am_R} {I : Nat → Nat → Int32} {L : Nat → Nat → Int64} {x : Int32} (h : ((60 ≤ (I 91 0) → (R none (am_mk I L, 0, 0))) ∧ (¬ (60 ≤ (I 91 0)) → (∀ I_2 : Nat → Nat → Int32, I_2 = va_up I 91 (upd (I 91) 0 ((I 91 0) + 1)) → (∃ j_4 : Nat, j_4 < 60 ∧ I 91 0 = nI j_4 ∧ (∀ I_7 : Nat → Nat → Int32, I_7 = va_up I_2 92 (upd (I_2 92) j_4 x) → (R none (am_mk I_7 L, 0, 0)))))))) : am_Run am_X0 (am_meth d) 87 R 0 [some (.ref 91), some (.int x)] [] (am_mk I L, 0, 0) := by
  refine ar_aload_n (j := 0) (q := 1) rfl rfl rfl rfl ?_
  refine ar_getf (v := .int (I 91 0)) (q := 4) rfl rfl mk_91 rfl rfl ?_
  refine ar_aload_n (j := 0) (q := 5) rfl rfl rfl rfl ?_
  refine ar_getf (v := .ref 92) (q := 8) rfl rfl mk_91 rfl rfl ?_
  refine ar_st (i := .arraylength) (n := 1) (st' := [.int 60, .int (I 91 0)]) (q := 9) rfl rfl rfl rfl ?_
  obtain ⟨hA, hB⟩ := h
  refine ar_br am_c_ge (t := 29) (q := 12) rfl rfl rfl (fun c_1 => ?_) (fun c_1 => ?_)
  · have h := hA c_1
    clear hA hB
    exact ar_vret rfl rfl h
  · have h := hB c_1
    clear hA hB
    refine ar_aload_n (j := 0) (q := 13) rfl rfl rfl rfl ?_
    refine ar_getf (v := .ref 92) (q := 16) rfl rfl mk_91 rfl rfl ?_
    refine ar_aload_n (j := 0) (q := 17) rfl rfl rfl rfl ?_
    refine ar_st (i := .dup) (n := 1) (st' := [.ref 91, .ref 91, .ref 92]) (q := 18) rfl rfl rfl rfl ?_
    refine ar_getf (v := .int (I 91 0)) (q := 21) rfl rfl mk_91 rfl rfl ?_
    refine ar_st (i := .dup_x1) (n := 1) (st' := [.int (I 91 0), .ref 91, .int (I 91 0), .ref 92]) (q := 22) rfl rfl rfl rfl ?_
    refine ar_iconst (v := 1) (q := 23) rfl rfl rfl ?_
    refine ar_ib (i := .iadd) (z := (I 91 0) + 1) (q := 24) rfl rfl rfl rfl rfl ?_
    obtain ⟨I_2, hI_3⟩ : ∃ z : Nat → Nat → Int32, z = va_up I 91 (upd (I 91) 0 ((I 91 0) + 1)) := ⟨_, rfl⟩
    have h := h I_2 hI_3
    refine ar_putf (hp2 := am_mk I_2 L) (q := 27) rfl rfl mk_91 rfl (by rw [hI_3]; exact mk_p91_0) rfl ?_
    refine ar_iload_n (j := 1) (q := 28) rfl rfl rfl rfl ?_
    obtain ⟨j_4, hx_5, hi_6, h⟩ := h
    obtain ⟨I_7, hI_8⟩ : ∃ z : Nat → Nat → Int32, z = va_up I_2 92 (upd (I_2 92) j_4 x) := ⟨_, rfl⟩
    have h := h I_7 hI_8
    refine ar_iast (hp2 := am_mk I_7 L) (q := 29) rfl mk_92 (am_inE hi_6 hx_5 (by decide)) (by rw [am_clT hi_6 hx_5 (by decide), hI_8]; exact mk_s92) rfl ?_
    exact ar_vret rfl rfl h
theorem r_Row_at_tape_0 {d : Nat} {R : am_R} {I : Nat → Nat → Int32} {L : Nat → Nat → Int64} {x : Int32} (h : ((x < 0 → (R (some (.int (-1 : Int32))) (am_mk I L, 0, 0))) ∧ (¬ (x < 0) → ((((I 91 0) ≤ x → (R (some (.int (-1 : Int32))) (am_mk I L, 0, 0))) ∧ (¬ ((I 91 0) ≤ x) → (∃ j_3 : Nat, j_3 < 60 ∧ x = nI j_3 ∧ (R (some (.int (I 92 j_3))) (am_mk I L, 0, 0))))))))) : am_Run am_X0 (am_meth d) 88 R 0 [some (.ref 91), some (.int x)] [] (am_mk I L, 0, 0) := by
  refine ar_iload_n (j := 1) (q := 1) rfl rfl rfl rfl ?_
  obtain ⟨hA, hB⟩ := h
  refine ar_b0 am_c_lt (t := 21) (q := 4) rfl rfl rfl (fun c_1 => ?_) (fun c_1 => ?_)
  · have h := hA c_1
    clear hA hB
    refine ar_iconst (v := (-1 : Int32)) (q := 22) rfl rfl rfl ?_
    exact ar_iret rfl rfl h
  · have h := hB c_1
    clear hA hB
    refine ar_iload_n (j := 1) (q := 5) rfl rfl rfl rfl ?_
    refine ar_aload_n (j := 0) (q := 6) rfl rfl rfl rfl ?_
    refine ar_getf (v := .int (I 91 0)) (q := 9) rfl rfl mk_91 rfl rfl ?_
    obtain ⟨hA, hB⟩ := h
    refine ar_br am_c_ge (t := 21) (q := 12) rfl rfl rfl (fun c_2 => ?_) (fun c_2 => ?_)
    · have h := hA c_2
      clear hA hB
      refine ar_iconst (v := (-1 : Int32)) (q := 22) rfl rfl rfl ?_
      exact ar_iret rfl rfl h
    · have h := hB c_2
      clear hA hB
      refine ar_aload_n (j := 0) (q := 13) rfl rfl rfl rfl ?_
      refine ar_getf (v := .ref 92) (q := 16) rfl rfl mk_91 rfl rfl ?_
      refine ar_iload_n (j := 1) (q := 17) rfl rfl rfl rfl ?_
      obtain ⟨j_3, hx_4, hi_5, h⟩ := h
      refine ar_iald (v := I 92 j_3) (q := 18) rfl mk_92 (am_inE hi_5 hx_4 (by decide)) (am_clE hi_5 hx_4 (by decide)) rfl ?_
      refine ar_goto (t := 22) rfl rfl ?_
      exact ar_iret rfl rfl h
theorem r_Row_clear_tape_0 {d : Nat} {R : am_R} {I : Nat → Nat → Int32} {L : Nat → Nat → Int64}  (h : ∀ I_1 : Nat → Nat → Int32, I_1 = va_up I 91 (upd (I 91) 0 0) → (R none (am_mk I_1 L, 0, 0))) : am_Run am_X0 (am_meth d) 89 R 0 [some (.ref 91)] [] (am_mk I L, 0, 0) := by
  refine ar_aload_n (j := 0) (q := 1) rfl rfl rfl rfl ?_
  refine ar_iconst (v := 0) (q := 2) rfl rfl rfl ?_
  obtain ⟨I_1, hI_2⟩ : ∃ z : Nat → Nat → Int32, z = va_up I 91 (upd (I 91) 0 0) := ⟨_, rfl⟩
  have h := h I_1 hI_2
  refine ar_putf (hp2 := am_mk I_1 L) (q := 5) rfl rfl mk_91 rfl (by rw [hI_2]; exact mk_p91_0) rfl ?_
  exact ar_vret rfl rfl h
theorem r_Row_hasRoomFor_row_0 {d : Nat} {R : am_R} {I : Nat → Nat → Int32} {L : Nat → Nat → Int64} {x : Int32} (h : (((12 - (I 95 0)) < x → (R (some (.int 0)) (am_mk I L, 0, 0))) ∧ (¬ ((12 - (I 95 0)) < x) → (R (some (.int 1)) (am_mk I L, 0, 0))))) : am_Run am_X0 (am_meth d) 86 R 0 [some (.ref 95), some (.int x)] [] (am_mk I L, 0, 0) := by
  refine ar_iload_n (j := 1) (q := 1) rfl rfl rfl rfl ?_
  refine ar_aload_n (j := 0) (q := 2) rfl rfl rfl rfl ?_
  refine ar_getf (v := .ref 96) (q := 5) rfl rfl mk_95 rfl rfl ?_
  refine ar_st (i := .arraylength) (n := 1) (st' := [.int 12, .int x]) (q := 6) rfl rfl rfl rfl ?_
  refine ar_aload_n (j := 0) (q := 7) rfl rfl rfl rfl ?_
  refine ar_getf (v := .int (I 95 0)) (q := 10) rfl rfl mk_95 rfl rfl ?_
  refine ar_ib (i := .isub) (z := 12 - (I 95 0)) (q := 11) rfl rfl rfl rfl rfl ?_
  obtain ⟨hA, hB⟩ := h
  refine ar_br am_c_gt (t := 18) (q := 14) rfl rfl rfl (fun c_1 => ?_) (fun c_1 => ?_)
  · have h := hA c_1
    clear hA hB
    refine ar_iconst (v := 0) (q := 19) rfl rfl rfl ?_
    exact ar_zret rfl rfl (Or.inl rfl) h
  · have h := hB c_1
    clear hA hB
    refine ar_iconst (v := 1) (q := 15) rfl rfl rfl ?_
    refine ar_goto (t := 19) rfl rfl ?_
    exact ar_zret rfl rfl (Or.inr rfl) h
theorem r_Row_add_row_0 {d : Nat} {R : am_R} {I : Nat → Nat → Int32} {L : Nat → Nat → Int64} {x : Int32} (h : ((12 ≤ (I 95 0) → (R none (am_mk I L, 0, 0))) ∧ (¬ (12 ≤ (I 95 0)) → (∀ I_2 : Nat → Nat → Int32, I_2 = va_up I 95 (upd (I 95) 0 ((I 95 0) + 1)) → (∃ j_4 : Nat, j_4 < 12 ∧ I 95 0 = nI j_4 ∧ (∀ I_7 : Nat → Nat → Int32, I_7 = va_up I_2 96 (upd (I_2 96) j_4 x) → (R none (am_mk I_7 L, 0, 0)))))))) : am_Run am_X0 (am_meth d) 87 R 0 [some (.ref 95), some (.int x)] [] (am_mk I L, 0, 0) := by
  refine ar_aload_n (j := 0) (q := 1) rfl rfl rfl rfl ?_
  refine ar_getf (v := .int (I 95 0)) (q := 4) rfl rfl mk_95 rfl rfl ?_
  refine ar_aload_n (j := 0) (q := 5) rfl rfl rfl rfl ?_
  refine ar_getf (v := .ref 96) (q := 8) rfl rfl mk_95 rfl rfl ?_
  refine ar_st (i := .arraylength) (n := 1) (st' := [.int 12, .int (I 95 0)]) (q := 9) rfl rfl rfl rfl ?_
  obtain ⟨hA, hB⟩ := h
  refine ar_br am_c_ge (t := 29) (q := 12) rfl rfl rfl (fun c_1 => ?_) (fun c_1 => ?_)
  · have h := hA c_1
    clear hA hB
    exact ar_vret rfl rfl h
  · have h := hB c_1
    clear hA hB
    refine ar_aload_n (j := 0) (q := 13) rfl rfl rfl rfl ?_
    refine ar_getf (v := .ref 96) (q := 16) rfl rfl mk_95 rfl rfl ?_
    refine ar_aload_n (j := 0) (q := 17) rfl rfl rfl rfl ?_
    refine ar_st (i := .dup) (n := 1) (st' := [.ref 95, .ref 95, .ref 96]) (q := 18) rfl rfl rfl rfl ?_
    refine ar_getf (v := .int (I 95 0)) (q := 21) rfl rfl mk_95 rfl rfl ?_
    refine ar_st (i := .dup_x1) (n := 1) (st' := [.int (I 95 0), .ref 95, .int (I 95 0), .ref 96]) (q := 22) rfl rfl rfl rfl ?_
    refine ar_iconst (v := 1) (q := 23) rfl rfl rfl ?_
    refine ar_ib (i := .iadd) (z := (I 95 0) + 1) (q := 24) rfl rfl rfl rfl rfl ?_
    obtain ⟨I_2, hI_3⟩ : ∃ z : Nat → Nat → Int32, z = va_up I 95 (upd (I 95) 0 ((I 95 0) + 1)) := ⟨_, rfl⟩
    have h := h I_2 hI_3
    refine ar_putf (hp2 := am_mk I_2 L) (q := 27) rfl rfl mk_95 rfl (by rw [hI_3]; exact mk_p95_0) rfl ?_
    refine ar_iload_n (j := 1) (q := 28) rfl rfl rfl rfl ?_
    obtain ⟨j_4, hx_5, hi_6, h⟩ := h
    obtain ⟨I_7, hI_8⟩ : ∃ z : Nat → Nat → Int32, z = va_up I_2 96 (upd (I_2 96) j_4 x) := ⟨_, rfl⟩
    have h := h I_7 hI_8
    refine ar_iast (hp2 := am_mk I_7 L) (q := 29) rfl mk_96 (am_inE hi_6 hx_5 (by decide)) (by rw [am_clT hi_6 hx_5 (by decide), hI_8]; exact mk_s96) rfl ?_
    exact ar_vret rfl rfl h
theorem r_Row_at_row_0 {d : Nat} {R : am_R} {I : Nat → Nat → Int32} {L : Nat → Nat → Int64} {x : Int32} (h : ((x < 0 → (R (some (.int (-1 : Int32))) (am_mk I L, 0, 0))) ∧ (¬ (x < 0) → ((((I 95 0) ≤ x → (R (some (.int (-1 : Int32))) (am_mk I L, 0, 0))) ∧ (¬ ((I 95 0) ≤ x) → (∃ j_3 : Nat, j_3 < 12 ∧ x = nI j_3 ∧ (R (some (.int (I 96 j_3))) (am_mk I L, 0, 0))))))))) : am_Run am_X0 (am_meth d) 88 R 0 [some (.ref 95), some (.int x)] [] (am_mk I L, 0, 0) := by
  refine ar_iload_n (j := 1) (q := 1) rfl rfl rfl rfl ?_
  obtain ⟨hA, hB⟩ := h
  refine ar_b0 am_c_lt (t := 21) (q := 4) rfl rfl rfl (fun c_1 => ?_) (fun c_1 => ?_)
  · have h := hA c_1
    clear hA hB
    refine ar_iconst (v := (-1 : Int32)) (q := 22) rfl rfl rfl ?_
    exact ar_iret rfl rfl h
  · have h := hB c_1
    clear hA hB
    refine ar_iload_n (j := 1) (q := 5) rfl rfl rfl rfl ?_
    refine ar_aload_n (j := 0) (q := 6) rfl rfl rfl rfl ?_
    refine ar_getf (v := .int (I 95 0)) (q := 9) rfl rfl mk_95 rfl rfl ?_
    obtain ⟨hA, hB⟩ := h
    refine ar_br am_c_ge (t := 21) (q := 12) rfl rfl rfl (fun c_2 => ?_) (fun c_2 => ?_)
    · have h := hA c_2
      clear hA hB
      refine ar_iconst (v := (-1 : Int32)) (q := 22) rfl rfl rfl ?_
      exact ar_iret rfl rfl h
    · have h := hB c_2
      clear hA hB
      refine ar_aload_n (j := 0) (q := 13) rfl rfl rfl rfl ?_
      refine ar_getf (v := .ref 96) (q := 16) rfl rfl mk_95 rfl rfl ?_
      refine ar_iload_n (j := 1) (q := 17) rfl rfl rfl rfl ?_
      obtain ⟨j_3, hx_4, hi_5, h⟩ := h
      refine ar_iald (v := I 96 j_3) (q := 18) rfl mk_96 (am_inE hi_5 hx_4 (by decide)) (am_clE hi_5 hx_4 (by decide)) rfl ?_
      refine ar_goto (t := 22) rfl rfl ?_
      exact ar_iret rfl rfl h
theorem r_Row_clear_row_0 {d : Nat} {R : am_R} {I : Nat → Nat → Int32} {L : Nat → Nat → Int64}  (h : ∀ I_1 : Nat → Nat → Int32, I_1 = va_up I 95 (upd (I 95) 0 0) → (R none (am_mk I_1 L, 0, 0))) : am_Run am_X0 (am_meth d) 89 R 0 [some (.ref 95)] [] (am_mk I L, 0, 0) := by
  refine ar_aload_n (j := 0) (q := 1) rfl rfl rfl rfl ?_
  refine ar_iconst (v := 0) (q := 2) rfl rfl rfl ?_
  obtain ⟨I_1, hI_2⟩ : ∃ z : Nat → Nat → Int32, z = va_up I 95 (upd (I 95) 0 0) := ⟨_, rfl⟩
  have h := h I_1 hI_2
  refine ar_putf (hp2 := am_mk I_1 L) (q := 5) rfl rfl mk_95 rfl (by rw [hI_2]; exact mk_p95_0) rfl ?_
  exact ar_vret rfl rfl h
theorem r_Row_hasRoomFor_told_0 {d : Nat} {R : am_R} {I : Nat → Nat → Int32} {L : Nat → Nat → Int64} {x : Int32} (h : (((6 - (I 97 0)) < x → (R (some (.int 0)) (am_mk I L, 0, 0))) ∧ (¬ ((6 - (I 97 0)) < x) → (R (some (.int 1)) (am_mk I L, 0, 0))))) : am_Run am_X0 (am_meth d) 86 R 0 [some (.ref 97), some (.int x)] [] (am_mk I L, 0, 0) := by
  refine ar_iload_n (j := 1) (q := 1) rfl rfl rfl rfl ?_
  refine ar_aload_n (j := 0) (q := 2) rfl rfl rfl rfl ?_
  refine ar_getf (v := .ref 98) (q := 5) rfl rfl mk_97 rfl rfl ?_
  refine ar_st (i := .arraylength) (n := 1) (st' := [.int 6, .int x]) (q := 6) rfl rfl rfl rfl ?_
  refine ar_aload_n (j := 0) (q := 7) rfl rfl rfl rfl ?_
  refine ar_getf (v := .int (I 97 0)) (q := 10) rfl rfl mk_97 rfl rfl ?_
  refine ar_ib (i := .isub) (z := 6 - (I 97 0)) (q := 11) rfl rfl rfl rfl rfl ?_
  obtain ⟨hA, hB⟩ := h
  refine ar_br am_c_gt (t := 18) (q := 14) rfl rfl rfl (fun c_1 => ?_) (fun c_1 => ?_)
  · have h := hA c_1
    clear hA hB
    refine ar_iconst (v := 0) (q := 19) rfl rfl rfl ?_
    exact ar_zret rfl rfl (Or.inl rfl) h
  · have h := hB c_1
    clear hA hB
    refine ar_iconst (v := 1) (q := 15) rfl rfl rfl ?_
    refine ar_goto (t := 19) rfl rfl ?_
    exact ar_zret rfl rfl (Or.inr rfl) h
theorem r_Row_add_told_0 {d : Nat} {R : am_R} {I : Nat → Nat → Int32} {L : Nat → Nat → Int64} {x : Int32} (h : ((6 ≤ (I 97 0) → (R none (am_mk I L, 0, 0))) ∧ (¬ (6 ≤ (I 97 0)) → (∀ I_2 : Nat → Nat → Int32, I_2 = va_up I 97 (upd (I 97) 0 ((I 97 0) + 1)) → (∃ j_4 : Nat, j_4 < 6 ∧ I 97 0 = nI j_4 ∧ (∀ I_7 : Nat → Nat → Int32, I_7 = va_up I_2 98 (upd (I_2 98) j_4 x) → (R none (am_mk I_7 L, 0, 0)))))))) : am_Run am_X0 (am_meth d) 87 R 0 [some (.ref 97), some (.int x)] [] (am_mk I L, 0, 0) := by
  refine ar_aload_n (j := 0) (q := 1) rfl rfl rfl rfl ?_
  refine ar_getf (v := .int (I 97 0)) (q := 4) rfl rfl mk_97 rfl rfl ?_
  refine ar_aload_n (j := 0) (q := 5) rfl rfl rfl rfl ?_
  refine ar_getf (v := .ref 98) (q := 8) rfl rfl mk_97 rfl rfl ?_
  refine ar_st (i := .arraylength) (n := 1) (st' := [.int 6, .int (I 97 0)]) (q := 9) rfl rfl rfl rfl ?_
  obtain ⟨hA, hB⟩ := h
  refine ar_br am_c_ge (t := 29) (q := 12) rfl rfl rfl (fun c_1 => ?_) (fun c_1 => ?_)
  · have h := hA c_1
    clear hA hB
    exact ar_vret rfl rfl h
  · have h := hB c_1
    clear hA hB
    refine ar_aload_n (j := 0) (q := 13) rfl rfl rfl rfl ?_
    refine ar_getf (v := .ref 98) (q := 16) rfl rfl mk_97 rfl rfl ?_
    refine ar_aload_n (j := 0) (q := 17) rfl rfl rfl rfl ?_
    refine ar_st (i := .dup) (n := 1) (st' := [.ref 97, .ref 97, .ref 98]) (q := 18) rfl rfl rfl rfl ?_
    refine ar_getf (v := .int (I 97 0)) (q := 21) rfl rfl mk_97 rfl rfl ?_
    refine ar_st (i := .dup_x1) (n := 1) (st' := [.int (I 97 0), .ref 97, .int (I 97 0), .ref 98]) (q := 22) rfl rfl rfl rfl ?_
    refine ar_iconst (v := 1) (q := 23) rfl rfl rfl ?_
    refine ar_ib (i := .iadd) (z := (I 97 0) + 1) (q := 24) rfl rfl rfl rfl rfl ?_
    obtain ⟨I_2, hI_3⟩ : ∃ z : Nat → Nat → Int32, z = va_up I 97 (upd (I 97) 0 ((I 97 0) + 1)) := ⟨_, rfl⟩
    have h := h I_2 hI_3
    refine ar_putf (hp2 := am_mk I_2 L) (q := 27) rfl rfl mk_97 rfl (by rw [hI_3]; exact mk_p97_0) rfl ?_
    refine ar_iload_n (j := 1) (q := 28) rfl rfl rfl rfl ?_
    obtain ⟨j_4, hx_5, hi_6, h⟩ := h
    obtain ⟨I_7, hI_8⟩ : ∃ z : Nat → Nat → Int32, z = va_up I_2 98 (upd (I_2 98) j_4 x) := ⟨_, rfl⟩
    have h := h I_7 hI_8
    refine ar_iast (hp2 := am_mk I_7 L) (q := 29) rfl mk_98 (am_inE hi_6 hx_5 (by decide)) (by rw [am_clT hi_6 hx_5 (by decide), hI_8]; exact mk_s98) rfl ?_
    exact ar_vret rfl rfl h
theorem r_Row_at_told_0 {d : Nat} {R : am_R} {I : Nat → Nat → Int32} {L : Nat → Nat → Int64} {x : Int32} (h : ((x < 0 → (R (some (.int (-1 : Int32))) (am_mk I L, 0, 0))) ∧ (¬ (x < 0) → ((((I 97 0) ≤ x → (R (some (.int (-1 : Int32))) (am_mk I L, 0, 0))) ∧ (¬ ((I 97 0) ≤ x) → (∃ j_3 : Nat, j_3 < 6 ∧ x = nI j_3 ∧ (R (some (.int (I 98 j_3))) (am_mk I L, 0, 0))))))))) : am_Run am_X0 (am_meth d) 88 R 0 [some (.ref 97), some (.int x)] [] (am_mk I L, 0, 0) := by
  refine ar_iload_n (j := 1) (q := 1) rfl rfl rfl rfl ?_
  obtain ⟨hA, hB⟩ := h
  refine ar_b0 am_c_lt (t := 21) (q := 4) rfl rfl rfl (fun c_1 => ?_) (fun c_1 => ?_)
  · have h := hA c_1
    clear hA hB
    refine ar_iconst (v := (-1 : Int32)) (q := 22) rfl rfl rfl ?_
    exact ar_iret rfl rfl h
  · have h := hB c_1
    clear hA hB
    refine ar_iload_n (j := 1) (q := 5) rfl rfl rfl rfl ?_
    refine ar_aload_n (j := 0) (q := 6) rfl rfl rfl rfl ?_
    refine ar_getf (v := .int (I 97 0)) (q := 9) rfl rfl mk_97 rfl rfl ?_
    obtain ⟨hA, hB⟩ := h
    refine ar_br am_c_ge (t := 21) (q := 12) rfl rfl rfl (fun c_2 => ?_) (fun c_2 => ?_)
    · have h := hA c_2
      clear hA hB
      refine ar_iconst (v := (-1 : Int32)) (q := 22) rfl rfl rfl ?_
      exact ar_iret rfl rfl h
    · have h := hB c_2
      clear hA hB
      refine ar_aload_n (j := 0) (q := 13) rfl rfl rfl rfl ?_
      refine ar_getf (v := .ref 98) (q := 16) rfl rfl mk_97 rfl rfl ?_
      refine ar_iload_n (j := 1) (q := 17) rfl rfl rfl rfl ?_
      obtain ⟨j_3, hx_4, hi_5, h⟩ := h
      refine ar_iald (v := I 98 j_3) (q := 18) rfl mk_98 (am_inE hi_5 hx_4 (by decide)) (am_clE hi_5 hx_4 (by decide)) rfl ?_
      refine ar_goto (t := 22) rfl rfl ?_
      exact ar_iret rfl rfl h
theorem r_Row_clear_told_0 {d : Nat} {R : am_R} {I : Nat → Nat → Int32} {L : Nat → Nat → Int64}  (h : ∀ I_1 : Nat → Nat → Int32, I_1 = va_up I 97 (upd (I 97) 0 0) → (R none (am_mk I_1 L, 0, 0))) : am_Run am_X0 (am_meth d) 89 R 0 [some (.ref 97)] [] (am_mk I L, 0, 0) := by
  refine ar_aload_n (j := 0) (q := 1) rfl rfl rfl rfl ?_
  refine ar_iconst (v := 0) (q := 2) rfl rfl rfl ?_
  obtain ⟨I_1, hI_2⟩ : ∃ z : Nat → Nat → Int32, z = va_up I 97 (upd (I 97) 0 0) := ⟨_, rfl⟩
  have h := h I_1 hI_2
  refine ar_putf (hp2 := am_mk I_1 L) (q := 5) rfl rfl mk_97 rfl (by rw [hI_2]; exact mk_p97_0) rfl ?_
  exact ar_vret rfl rfl h
theorem r_H_refuse_0 {d : Nat} {R : am_R} {I : Nat → Nat → Int32} {L : Nat → Nat → Int64} {x : Int32} (h : (((-x) < 0 → (R (some (.int x)) (am_mk I L, 0, 0))) ∧ (¬ ((-x) < 0) → (((7 ≤ (-x) → (R (some (.int x)) (am_mk I L, 0, 0))) ∧ (¬ (7 ≤ (-x)) → (∃ j_3 : Nat, j_3 < 7 ∧ -x = nI j_3 ∧ (∃ j_6 : Nat, j_6 < 7 ∧ -x = nI j_6 ∧ (∀ I_9 : Nat → Nat → Int32, I_9 = va_up I 1 (upd (I 1) j_6 ((I 1 j_3) + 1)) → (R (some (.int x)) (am_mk I_9 L, 0, 0))))))))))) : am_Run am_X0 (am_meth d) 2 R 0 [some (.ref 0), some (.int x), none] [] (am_mk I L, 0, 0) := by
  refine ar_iload_n (j := 1) (q := 1) rfl rfl rfl rfl ?_
  refine ar_st (i := .ineg) (n := 1) (st' := [.int (-x)]) (q := 2) rfl rfl rfl rfl ?_
  refine ar_istore_n (j := 2) (ls' := [some (.ref 0), some (.int x), some (.int (-x))]) (q := 3) rfl rfl rfl rfl rfl ?_
  refine ar_iload_n (j := 2) (q := 4) rfl rfl rfl rfl ?_
  obtain ⟨hA, hB⟩ := h
  refine ar_b0 am_c_lt (t := 26) (q := 7) rfl rfl rfl (fun c_1 => ?_) (fun c_1 => ?_)
  · have h := hA c_1
    clear hA hB
    refine ar_iload_n (j := 1) (q := 27) rfl rfl rfl rfl ?_
    exact ar_iret rfl rfl h
  · have h := hB c_1
    clear hA hB
    refine ar_iload_n (j := 2) (q := 8) rfl rfl rfl rfl ?_
    refine ar_aload_n (j := 0) (q := 9) rfl rfl rfl rfl ?_
    refine ar_getf (v := .ref 1) (q := 12) rfl rfl mk_0 rfl rfl ?_
    refine ar_st (i := .arraylength) (n := 1) (st' := [.int 7, .int (-x)]) (q := 13) rfl rfl rfl rfl ?_
    obtain ⟨hA, hB⟩ := h
    refine ar_br am_c_ge (t := 26) (q := 16) rfl rfl rfl (fun c_2 => ?_) (fun c_2 => ?_)
    · have h := hA c_2
      clear hA hB
      refine ar_iload_n (j := 1) (q := 27) rfl rfl rfl rfl ?_
      exact ar_iret rfl rfl h
    · have h := hB c_2
      clear hA hB
      refine ar_aload_n (j := 0) (q := 17) rfl rfl rfl rfl ?_
      refine ar_getf (v := .ref 1) (q := 20) rfl rfl mk_0 rfl rfl ?_
      refine ar_iload_n (j := 2) (q := 21) rfl rfl rfl rfl ?_
      refine ar_st (i := .dup2) (n := 1) (st' := [.int (-x), .ref 1, .int (-x), .ref 1]) (q := 22) rfl rfl rfl rfl ?_
      obtain ⟨j_3, hx_4, hi_5, h⟩ := h
      refine ar_iald (v := I 1 j_3) (q := 23) rfl mk_1 (am_inE hi_5 hx_4 (by decide)) (am_clE hi_5 hx_4 (by decide)) rfl ?_
      refine ar_iconst (v := 1) (q := 24) rfl rfl rfl ?_
      refine ar_ib (i := .iadd) (z := (I 1 j_3) + 1) (q := 25) rfl rfl rfl rfl rfl ?_
      obtain ⟨j_6, hx_7, hi_8, h⟩ := h
      obtain ⟨I_9, hI_10⟩ : ∃ z : Nat → Nat → Int32, z = va_up I 1 (upd (I 1) j_6 ((I 1 j_3) + 1)) := ⟨_, rfl⟩
      have h := h I_9 hI_10
      refine ar_iast (hp2 := am_mk I_9 L) (q := 26) rfl mk_1 (am_inE hi_8 hx_7 (by decide)) (by rw [am_clT hi_8 hx_7 (by decide), hI_10]; exact mk_s1) rfl ?_
      refine ar_iload_n (j := 1) (q := 27) rfl rfl rfl rfl ?_
      exact ar_iret rfl rfl h
theorem r_H_refuseBeyond_0 {d : Nat} {R : am_R} {I : Nat → Nat → Int32} {L : Nat → Nat → Int64} {x : Int32} (h : am_meth d 2 [.ref 0, .int x] (am_mk I L, 0, 0) (am_ri (fun z_1 I_2 L_3 => R (some (.int (1000000000 - z_1))) (am_mk I_2 L_3, 0, 0)))) : am_Run am_X0 (am_meth d) 18 R 0 [some (.ref 0), some (.int x)] [] (am_mk I L, 0, 0) := by
  refine ar_ldcw (v := 1000000000) (q := 3) rfl rfl rfl ?_
  refine ar_aload_n (j := 0) (q := 4) rfl rfl rfl rfl ?_
  refine ar_iload_n (j := 1) (q := 5) rfl rfl rfl rfl ?_
  refine ar_invv (as := [.int x]) (rest := [.int 1000000000]) (b2 := (0, 0)) (b3 := (0, 0)) (q := 8) rfl rfl rfl rfl mk_0 rfl rfl rfl rfl rfl ?_
  refine am_meth_mono d _ _ _ _ _ (fun v9 m9 h9 => ?_) h
  obtain ⟨z_1, I_2, L_3, rfl, rfl, h⟩ := h9
  show am_Run am_X0 (am_meth d) 18 R 8 [some (.ref 0), some (.int x)] [.int z_1, .int 1000000000] (am_mk I_2 L_3, 0, 0)
  refine ar_ib (i := .isub) (z := 1000000000 - z_1) (q := 9) rfl rfl rfl rfl rfl ?_
  exact ar_iret rfl rfl h
theorem r_H_boundRefusal_0 {d : Nat} {R : am_R} {I : Nat → Nat → Int32} {L : Nat → Nat → Int64} {x : Int32} {lo : Int32} {hi : Int32} (h : ((lo ≤ x → (((x ≤ hi → (R (some (.int 0)) (am_mk I L, 0, 0))) ∧ (¬ (x ≤ hi) → (R (some (.int (-6 : Int32))) (am_mk I L, 0, 0)))))) ∧ (¬ (lo ≤ x) → (R (some (.int (-4 : Int32))) (am_mk I L, 0, 0))))) : am_Run am_X0 (am_meth d) 5 R 0 [some (.int x), some (.int lo), some (.int hi)] [] (am_mk I L, 0, 0) := by
  refine ar_iload_n (j := 0) (q := 1) rfl rfl rfl rfl ?_
  refine ar_iload_n (j := 1) (q := 2) rfl rfl rfl rfl ?_
  obtain ⟨hA, hB⟩ := h
  refine ar_br am_c_ge (t := 8) (q := 5) rfl rfl rfl (fun c_1 => ?_) (fun c_1 => ?_)
  · have h := hA c_1
    clear hA hB
    refine ar_iload_n (j := 0) (q := 9) rfl rfl rfl rfl ?_
    refine ar_iload_n (j := 2) (q := 10) rfl rfl rfl rfl ?_
    obtain ⟨hA, hB⟩ := h
    refine ar_br am_c_le (t := 18) (q := 13) rfl rfl rfl (fun c_2 => ?_) (fun c_2 => ?_)
    · have h := hA c_2
      clear hA hB
      refine ar_iconst (v := 0) (q := 19) rfl rfl rfl ?_
      exact ar_iret rfl rfl h
    · have h := hB c_2
      clear hA hB
      refine ar_bipush (v := (-6 : Int32)) (q := 15) rfl rfl rfl ?_
      refine ar_goto (t := 19) rfl rfl ?_
      exact ar_iret rfl rfl h
  · have h := hB c_1
    clear hA hB
    refine ar_bipush (v := (-4 : Int32)) (q := 7) rfl rfl rfl ?_
    exact ar_iret rfl rfl h
theorem r_H_days_0 {d : Nat} {R : am_R} {I : Nat → Nat → Int32} {L : Nat → Nat → Int64} {n : Int32} (h : ((1 ≤ n → (((n ≤ (1500 - (I 66 0)) → (∀ I_3 : Nat → Nat → Int32, I_3 = va_up I 66 (upd (I 66) 0 ((I 66 0) + n)) → (R (some (.int (I_3 66 0))) (am_mk I_3 L, 0, 0)))) ∧ (¬ (n ≤ (1500 - (I 66 0))) → (am_meth d 2 [.ref 0, .int (-6 : Int32)] (am_mk I L, 0, 0) (am_ri (fun z_5 I_6 L_7 => R (some (.int z_5)) (am_mk I_6 L_7, 0, 0)))))))) ∧ (¬ (1 ≤ n) → (am_meth d 2 [.ref 0, .int (-4 : Int32)] (am_mk I L, 0, 0) (am_ri (fun z_8 I_9 L_10 => R (some (.int z_8)) (am_mk I_9 L_10, 0, 0))))))) : am_Run am_X0 (am_meth d) 1 R 0 [some (.ref 0), some (.int n)] [] (am_mk I L, 0, 0) := by
  refine ar_iload_n (j := 1) (q := 1) rfl rfl rfl rfl ?_
  refine ar_iconst (v := 1) (q := 2) rfl rfl rfl ?_
  obtain ⟨hA, hB⟩ := h
  refine ar_br am_c_ge (t := 12) (q := 5) rfl rfl rfl (fun c_1 => ?_) (fun c_1 => ?_)
  · have h := hA c_1
    clear hA hB
    refine ar_iload_n (j := 1) (q := 13) rfl rfl rfl rfl ?_
    refine ar_sipush (v := 1500) (q := 16) rfl rfl rfl ?_
    refine ar_aload_n (j := 0) (q := 17) rfl rfl rfl rfl ?_
    refine ar_getf (v := .ref 66) (q := 20) rfl rfl mk_0 rfl rfl ?_
    refine ar_getf (v := .int (I 66 0)) (q := 23) rfl rfl mk_66 rfl rfl ?_
    refine ar_ib (i := .isub) (z := 1500 - (I 66 0)) (q := 24) rfl rfl rfl rfl rfl ?_
    obtain ⟨hA, hB⟩ := h
    refine ar_br am_c_le (t := 34) (q := 27) rfl rfl rfl (fun c_2 => ?_) (fun c_2 => ?_)
    · have h := hA c_2
      clear hA hB
      refine ar_aload_n (j := 0) (q := 35) rfl rfl rfl rfl ?_
      refine ar_getf (v := .ref 66) (q := 38) rfl rfl mk_0 rfl rfl ?_
      refine ar_st (i := .dup) (n := 1) (st' := [.ref 66, .ref 66]) (q := 39) rfl rfl rfl rfl ?_
      refine ar_getf (v := .int (I 66 0)) (q := 42) rfl rfl mk_66 rfl rfl ?_
      refine ar_iload_n (j := 1) (q := 43) rfl rfl rfl rfl ?_
      refine ar_ib (i := .iadd) (z := (I 66 0) + n) (q := 44) rfl rfl rfl rfl rfl ?_
      obtain ⟨I_3, hI_4⟩ : ∃ z : Nat → Nat → Int32, z = va_up I 66 (upd (I 66) 0 ((I 66 0) + n)) := ⟨_, rfl⟩
      have h := h I_3 hI_4
      refine ar_putf (hp2 := am_mk I_3 L) (q := 47) rfl rfl mk_66 rfl (by rw [hI_4]; exact mk_p66_0) rfl ?_
      refine ar_aload_n (j := 0) (q := 48) rfl rfl rfl rfl ?_
      refine ar_getf (v := .ref 66) (q := 51) rfl rfl mk_0 rfl rfl ?_
      refine ar_getf (v := .int (I_3 66 0)) (q := 54) rfl rfl mk_66 rfl rfl ?_
      exact ar_iret rfl rfl h
    · have h := hB c_2
      clear hA hB
      refine ar_aload_n (j := 0) (q := 28) rfl rfl rfl rfl ?_
      refine ar_bipush (v := (-6 : Int32)) (q := 30) rfl rfl rfl ?_
      refine ar_invv (as := [.int (-6 : Int32)]) (rest := []) (b2 := (0, 0)) (b3 := (0, 0)) (q := 33) rfl rfl rfl rfl mk_0 rfl rfl rfl rfl rfl ?_
      refine am_meth_mono d _ _ _ _ _ (fun v9 m9 h9 => ?_) h
      obtain ⟨z_5, I_6, L_7, rfl, rfl, h⟩ := h9
      show am_Run am_X0 (am_meth d) 1 R 33 [some (.ref 0), some (.int n)] [.int z_5] (am_mk I_6 L_7, 0, 0)
      exact ar_iret rfl rfl h
  · have h := hB c_1
    clear hA hB
    refine ar_aload_n (j := 0) (q := 6) rfl rfl rfl rfl ?_
    refine ar_bipush (v := (-4 : Int32)) (q := 8) rfl rfl rfl ?_
    refine ar_invv (as := [.int (-4 : Int32)]) (rest := []) (b2 := (0, 0)) (b3 := (0, 0)) (q := 11) rfl rfl rfl rfl mk_0 rfl rfl rfl rfl rfl ?_
    refine am_meth_mono d _ _ _ _ _ (fun v9 m9 h9 => ?_) h
    obtain ⟨z_8, I_9, L_10, rfl, rfl, h⟩ := h9
    show am_Run am_X0 (am_meth d) 1 R 11 [some (.ref 0), some (.int n)] [.int z_8] (am_mk I_9 L_10, 0, 0)
    exact ar_iret rfl rfl h
theorem r_H_town_0 {d : Nat} {R : am_R} {I : Nat → Nat → Int32} {L : Nat → Nat → Int64} {t : Int32} {l : Int32} (h : am_meth d 146 [.ref 2, .int t] (am_mk I L, 0, 0) (am_ri (fun z_1 I_2 L_3 => ((z_1 = 0 → (am_meth d 2 [.ref 0, .int (-1 : Int32)] (am_mk I_2 L_3, 0, 0) (am_ri (fun z_5 I_6 L_7 => R (some (.int z_5)) (am_mk I_6 L_7, 0, 0))))) ∧ (¬ (z_1 = 0) → (am_meth d 147 [.ref 2, .int l] (am_mk I_2 L_3, 0, 0) (am_ri (fun z_8 I_9 L_10 => ((¬ z_8 = 0 → (∃ j_12 : Nat, j_12 < 10 ∧ t = nI j_12 ∧ (∃ j_15 : Nat, j_15 < 10 ∧ t = nI j_15 ∧ (∀ I_18 : Nat → Nat → Int32, I_18 = va_up I_9 3 (upd (I_9 3) j_15 l) → (R (some (.int (I_9 3 j_12))) (am_mk I_18 L_10, 0, 0)))))) ∧ (¬ (¬ z_8 = 0) → (am_meth d 2 [.ref 0, .int (-1 : Int32)] (am_mk I_9 L_10, 0, 0) (am_ri (fun z_20 I_21 L_22 => R (some (.int z_20)) (am_mk I_21 L_22, 0, 0)))))))))))))) : am_Run am_X0 (am_meth d) 3 R 0 [some (.ref 0), some (.int t), some (.int l), none] [] (am_mk I L, 0, 0) := by
  refine ar_aload_n (j := 0) (q := 1) rfl rfl rfl rfl ?_
  refine ar_getf (v := .ref 2) (q := 4) rfl rfl mk_0 rfl rfl ?_
  refine ar_iload_n (j := 1) (q := 5) rfl rfl rfl rfl ?_
  refine ar_invv (as := [.int t]) (rest := []) (b2 := (0, 0)) (b3 := (0, 0)) (q := 8) rfl rfl rfl rfl mk_2 rfl rfl rfl rfl rfl ?_
  refine am_meth_mono d _ _ _ _ _ (fun v9 m9 h9 => ?_) h
  obtain ⟨z_1, I_2, L_3, rfl, rfl, h⟩ := h9
  show am_Run am_X0 (am_meth d) 3 R 8 [some (.ref 0), some (.int t), some (.int l), none] [.int z_1] (am_mk I_2 L_3, 0, 0)
  obtain ⟨hA, hB⟩ := h
  refine ar_b0 am_c_eq (t := 22) (q := 11) rfl rfl rfl (fun c_4 => ?_) (fun c_4 => ?_)
  · have h := hA c_4
    clear hA hB
    refine ar_aload_n (j := 0) (q := 23) rfl rfl rfl rfl ?_
    refine ar_iconst (v := (-1 : Int32)) (q := 24) rfl rfl rfl ?_
    refine ar_invv (as := [.int (-1 : Int32)]) (rest := []) (b2 := (0, 0)) (b3 := (0, 0)) (q := 27) rfl rfl rfl rfl mk_0 rfl rfl rfl rfl rfl ?_
    refine am_meth_mono d _ _ _ _ _ (fun v9 m9 h9 => ?_) h
    obtain ⟨z_5, I_6, L_7, rfl, rfl, h⟩ := h9
    show am_Run am_X0 (am_meth d) 3 R 27 [some (.ref 0), some (.int t), some (.int l), none] [.int z_5] (am_mk I_6 L_7, 0, 0)
    exact ar_iret rfl rfl h
  · have h := hB c_4
    clear hA hB
    refine ar_aload_n (j := 0) (q := 12) rfl rfl rfl rfl ?_
    refine ar_getf (v := .ref 2) (q := 15) rfl rfl mk_0 rfl rfl ?_
    refine ar_iload_n (j := 2) (q := 16) rfl rfl rfl rfl ?_
    refine ar_invv (as := [.int l]) (rest := []) (b2 := (0, 0)) (b3 := (0, 0)) (q := 19) rfl rfl rfl rfl mk_2 rfl rfl rfl rfl rfl ?_
    refine am_meth_mono d _ _ _ _ _ (fun v9 m9 h9 => ?_) h
    obtain ⟨z_8, I_9, L_10, rfl, rfl, h⟩ := h9
    show am_Run am_X0 (am_meth d) 3 R 19 [some (.ref 0), some (.int t), some (.int l), none] [.int z_8] (am_mk I_9 L_10, 0, 0)
    obtain ⟨hA, hB⟩ := h
    refine ar_b0 am_c_ne (t := 28) (q := 22) rfl rfl rfl (fun c_11 => ?_) (fun c_11 => ?_)
    · have h := hA c_11
      clear hA hB
      refine ar_aload_n (j := 0) (q := 29) rfl rfl rfl rfl ?_
      refine ar_getf (v := .ref 2) (q := 32) rfl rfl mk_0 rfl rfl ?_
      refine ar_getf (v := .ref 3) (q := 35) rfl rfl mk_2 rfl rfl ?_
      refine ar_iload_n (j := 1) (q := 36) rfl rfl rfl rfl ?_
      obtain ⟨j_12, hx_13, hi_14, h⟩ := h
      refine ar_iald (v := I_9 3 j_12) (q := 37) rfl mk_3 (am_inE hi_14 hx_13 (by decide)) (am_clE hi_14 hx_13 (by decide)) rfl ?_
      refine ar_istore_n (j := 3) (ls' := [some (.ref 0), some (.int t), some (.int l), some (.int (I_9 3 j_12))]) (q := 38) rfl rfl rfl rfl rfl ?_
      refine ar_aload_n (j := 0) (q := 39) rfl rfl rfl rfl ?_
      refine ar_getf (v := .ref 2) (q := 42) rfl rfl mk_0 rfl rfl ?_
      refine ar_getf (v := .ref 3) (q := 45) rfl rfl mk_2 rfl rfl ?_
      refine ar_iload_n (j := 1) (q := 46) rfl rfl rfl rfl ?_
      refine ar_iload_n (j := 2) (q := 47) rfl rfl rfl rfl ?_
      obtain ⟨j_15, hx_16, hi_17, h⟩ := h
      obtain ⟨I_18, hI_19⟩ : ∃ z : Nat → Nat → Int32, z = va_up I_9 3 (upd (I_9 3) j_15 l) := ⟨_, rfl⟩
      have h := h I_18 hI_19
      refine ar_iast (hp2 := am_mk I_18 L_10) (q := 48) rfl mk_3 (am_inE hi_17 hx_16 (by decide)) (by rw [am_clT hi_17 hx_16 (by decide), hI_19]; exact mk_s3) rfl ?_
      refine ar_iload_n (j := 3) (q := 49) rfl rfl rfl rfl ?_
      exact ar_iret rfl rfl h
    · have h := hB c_11
      clear hA hB
      refine ar_aload_n (j := 0) (q := 23) rfl rfl rfl rfl ?_
      refine ar_iconst (v := (-1 : Int32)) (q := 24) rfl rfl rfl ?_
      refine ar_invv (as := [.int (-1 : Int32)]) (rest := []) (b2 := (0, 0)) (b3 := (0, 0)) (q := 27) rfl rfl rfl rfl mk_0 rfl rfl rfl rfl rfl ?_
      refine am_meth_mono d _ _ _ _ _ (fun v9 m9 h9 => ?_) h
      obtain ⟨z_20, I_21, L_22, rfl, rfl, h⟩ := h9
      show am_Run am_X0 (am_meth d) 3 R 27 [some (.ref 0), some (.int t), some (.int l), none] [.int z_20] (am_mk I_21 L_22, 0, 0)
      exact ar_iret rfl rfl h
theorem r_H_way_0 {d : Nat} {R : am_R} {I : Nat → Nat → Int32} {L : Nat → Nat → Int64} {a : Int32} {b : Int32} {x : Int32} (h : am_meth d 146 [.ref 2, .int a] (am_mk I L, 0, 0) (am_ri (fun z_1 I_2 L_3 => ((z_1 = 0 → (am_meth d 2 [.ref 0, .int (-1 : Int32)] (am_mk I_2 L_3, 0, 0) (am_ri (fun z_5 I_6 L_7 => R (some (.int z_5)) (am_mk I_6 L_7, 0, 0))))) ∧ (¬ (z_1 = 0) → (am_meth d 146 [.ref 2, .int b] (am_mk I_2 L_3, 0, 0) (am_ri (fun z_8 I_9 L_10 => ((z_8 = 0 → (am_meth d 2 [.ref 0, .int (-1 : Int32)] (am_mk I_9 L_10, 0, 0) (am_ri (fun z_12 I_13 L_14 => R (some (.int z_12)) (am_mk I_13 L_14, 0, 0))))) ∧ (¬ (z_8 = 0) → (((¬ a = b → (am_meth d 5 [.int x, .int 1, .int 240] (am_mk I_9 L_10, 0, 0) (am_ri (fun z_16 I_17 L_18 => ((z_16 = 0 → (∃ j_20 : Nat, j_20 < 10 ∧ a = nI j_20 ∧ (∃ j_23 : Nat, j_23 < 10 ∧ b = nI j_23 ∧ (∃ j_26 : Nat, j_26 < 10 ∧ a = nI j_26 ∧ (∃ j_29 : Nat, j_29 < 10 ∧ b = nI j_29 ∧ (∀ I_32 : Nat → Nat → Int32, I_32 = va_up I_17 (6 + j_26) (upd (I_17 (6 + j_26)) j_29 x) → (∃ j_34 : Nat, j_34 < 10 ∧ b = nI j_34 ∧ (∃ j_37 : Nat, j_37 < 10 ∧ a = nI j_37 ∧ (∀ I_40 : Nat → Nat → Int32, I_40 = va_up I_32 (6 + j_34) (upd (I_32 (6 + j_34)) j_37 x) → (R (some (.int (I_17 (6 + j_20) j_23))) (am_mk I_40 L_18, 0, 0))))))))))) ∧ (¬ (z_16 = 0) → (am_meth d 2 [.ref 0, .int z_16] (am_mk I_17 L_18, 0, 0) (am_ri (fun z_42 I_43 L_44 => R (some (.int z_42)) (am_mk I_43 L_44, 0, 0)))))))))) ∧ (¬ (¬ a = b) → (am_meth d 2 [.ref 0, .int (-1 : Int32)] (am_mk I_9 L_10, 0, 0) (am_ri (fun z_45 I_46 L_47 => R (some (.int z_45)) (am_mk I_46 L_47, 0, 0))))))))))))))))) : am_Run am_X0 (am_meth d) 4 R 0 [some (.ref 0), some (.int a), some (.int b), some (.int x), none, none] [] (am_mk I L, 0, 0) := by
  refine ar_aload_n (j := 0) (q := 1) rfl rfl rfl rfl ?_
  refine ar_getf (v := .ref 2) (q := 4) rfl rfl mk_0 rfl rfl ?_
  refine ar_iload_n (j := 1) (q := 5) rfl rfl rfl rfl ?_
  refine ar_invv (as := [.int a]) (rest := []) (b2 := (0, 0)) (b3 := (0, 0)) (q := 8) rfl rfl rfl rfl mk_2 rfl rfl rfl rfl rfl ?_
  refine am_meth_mono d _ _ _ _ _ (fun v9 m9 h9 => ?_) h
  obtain ⟨z_1, I_2, L_3, rfl, rfl, h⟩ := h9
  show am_Run am_X0 (am_meth d) 4 R 8 [some (.ref 0), some (.int a), some (.int b), some (.int x), none, none] [.int z_1] (am_mk I_2 L_3, 0, 0)
  obtain ⟨hA, hB⟩ := h
  refine ar_b0 am_c_eq (t := 27) (q := 11) rfl rfl rfl (fun c_4 => ?_) (fun c_4 => ?_)
  · have h := hA c_4
    clear hA hB
    refine ar_aload_n (j := 0) (q := 28) rfl rfl rfl rfl ?_
    refine ar_iconst (v := (-1 : Int32)) (q := 29) rfl rfl rfl ?_
    refine ar_invv (as := [.int (-1 : Int32)]) (rest := []) (b2 := (0, 0)) (b3 := (0, 0)) (q := 32) rfl rfl rfl rfl mk_0 rfl rfl rfl rfl rfl ?_
    refine am_meth_mono d _ _ _ _ _ (fun v9 m9 h9 => ?_) h
    obtain ⟨z_5, I_6, L_7, rfl, rfl, h⟩ := h9
    show am_Run am_X0 (am_meth d) 4 R 32 [some (.ref 0), some (.int a), some (.int b), some (.int x), none, none] [.int z_5] (am_mk I_6 L_7, 0, 0)
    exact ar_iret rfl rfl h
  · have h := hB c_4
    clear hA hB
    refine ar_aload_n (j := 0) (q := 12) rfl rfl rfl rfl ?_
    refine ar_getf (v := .ref 2) (q := 15) rfl rfl mk_0 rfl rfl ?_
    refine ar_iload_n (j := 2) (q := 16) rfl rfl rfl rfl ?_
    refine ar_invv (as := [.int b]) (rest := []) (b2 := (0, 0)) (b3 := (0, 0)) (q := 19) rfl rfl rfl rfl mk_2 rfl rfl rfl rfl rfl ?_
    refine am_meth_mono d _ _ _ _ _ (fun v9 m9 h9 => ?_) h
    obtain ⟨z_8, I_9, L_10, rfl, rfl, h⟩ := h9
    show am_Run am_X0 (am_meth d) 4 R 19 [some (.ref 0), some (.int a), some (.int b), some (.int x), none, none] [.int z_8] (am_mk I_9 L_10, 0, 0)
    obtain ⟨hA, hB⟩ := h
    refine ar_b0 am_c_eq (t := 27) (q := 22) rfl rfl rfl (fun c_11 => ?_) (fun c_11 => ?_)
    · have h := hA c_11
      clear hA hB
      refine ar_aload_n (j := 0) (q := 28) rfl rfl rfl rfl ?_
      refine ar_iconst (v := (-1 : Int32)) (q := 29) rfl rfl rfl ?_
      refine ar_invv (as := [.int (-1 : Int32)]) (rest := []) (b2 := (0, 0)) (b3 := (0, 0)) (q := 32) rfl rfl rfl rfl mk_0 rfl rfl rfl rfl rfl ?_
      refine am_meth_mono d _ _ _ _ _ (fun v9 m9 h9 => ?_) h
      obtain ⟨z_12, I_13, L_14, rfl, rfl, h⟩ := h9
      show am_Run am_X0 (am_meth d) 4 R 32 [some (.ref 0), some (.int a), some (.int b), some (.int x), none, none] [.int z_12] (am_mk I_13 L_14, 0, 0)
      exact ar_iret rfl rfl h
    · have h := hB c_11
      clear hA hB
      refine ar_iload_n (j := 1) (q := 23) rfl rfl rfl rfl ?_
      refine ar_iload_n (j := 2) (q := 24) rfl rfl rfl rfl ?_
      obtain ⟨hA, hB⟩ := h
      refine ar_br am_c_ne (t := 33) (q := 27) rfl rfl rfl (fun c_15 => ?_) (fun c_15 => ?_)
      · have h := hA c_15
        clear hA hB
        refine ar_iload_n (j := 3) (q := 34) rfl rfl rfl rfl ?_
        refine ar_iconst (v := 1) (q := 35) rfl rfl rfl ?_
        refine ar_sipush (v := 240) (q := 38) rfl rfl rfl ?_
        refine ar_invs (as := [.int x, .int 1, .int 240]) (rest := []) (b2 := (0, 0)) (b3 := (0, 0)) (q := 41) rfl rfl rfl rfl rfl rfl rfl rfl rfl ?_
        refine am_meth_mono d _ _ _ _ _ (fun v9 m9 h9 => ?_) h
        obtain ⟨z_16, I_17, L_18, rfl, rfl, h⟩ := h9
        show am_Run am_X0 (am_meth d) 4 R 41 [some (.ref 0), some (.int a), some (.int b), some (.int x), none, none] [.int z_16] (am_mk I_17 L_18, 0, 0)
        refine ar_istore (ls' := [some (.ref 0), some (.int a), some (.int b), some (.int x), some (.int z_16), none]) (q := 43) rfl rfl rfl rfl ?_
        refine ar_iload (q := 45) rfl rfl rfl ?_
        obtain ⟨hA, hB⟩ := h
        refine ar_b0 am_c_eq (t := 55) (q := 48) rfl rfl rfl (fun c_19 => ?_) (fun c_19 => ?_)
        · have h := hA c_19
          clear hA hB
          refine ar_aload_n (j := 0) (q := 56) rfl rfl rfl rfl ?_
          refine ar_getf (v := .ref 2) (q := 59) rfl rfl mk_0 rfl rfl ?_
          refine ar_getf (v := .ref 5) (q := 62) rfl rfl mk_2 rfl rfl ?_
          refine ar_iload_n (j := 1) (q := 63) rfl rfl rfl rfl ?_
          obtain ⟨j_20, hx_21, hi_22, h⟩ := h
          refine ar_aald (c2 := 6 + j_20) (q := 64) rfl mk_5 (am_inE hi_22 hx_21 (by decide)) (congrArg (fun z => some (6 + z)) (am_clT hi_22 hx_21 (by decide))) rfl ?_
          refine ar_iload_n (j := 2) (q := 65) rfl rfl rfl rfl ?_
          obtain ⟨j_23, hx_24, hi_25, h⟩ := h
          refine ar_iald (v := I_17 (6 + j_20) j_23) (q := 66) rfl (mk_g5 hx_21) (am_inE hi_25 hx_24 (by decide)) (am_clE hi_25 hx_24 (by decide)) rfl ?_
          refine ar_istore (ls' := [some (.ref 0), some (.int a), some (.int b), some (.int x), some (.int z_16), some (.int (I_17 (6 + j_20) j_23))]) (q := 68) rfl rfl rfl rfl ?_
          refine ar_aload_n (j := 0) (q := 69) rfl rfl rfl rfl ?_
          refine ar_getf (v := .ref 2) (q := 72) rfl rfl mk_0 rfl rfl ?_
          refine ar_getf (v := .ref 5) (q := 75) rfl rfl mk_2 rfl rfl ?_
          refine ar_iload_n (j := 1) (q := 76) rfl rfl rfl rfl ?_
          obtain ⟨j_26, hx_27, hi_28, h⟩ := h
          refine ar_aald (c2 := 6 + j_26) (q := 77) rfl mk_5 (am_inE hi_28 hx_27 (by decide)) (congrArg (fun z => some (6 + z)) (am_clT hi_28 hx_27 (by decide))) rfl ?_
          refine ar_iload_n (j := 2) (q := 78) rfl rfl rfl rfl ?_
          refine ar_iload_n (j := 3) (q := 79) rfl rfl rfl rfl ?_
          obtain ⟨j_29, hx_30, hi_31, h⟩ := h
          obtain ⟨I_32, hI_33⟩ : ∃ z : Nat → Nat → Int32, z = va_up I_17 (6 + j_26) (upd (I_17 (6 + j_26)) j_29 x) := ⟨_, rfl⟩
          have h := h I_32 hI_33
          refine ar_iast (hp2 := am_mk I_32 L_18) (q := 80) rfl (mk_g5 hx_27) (am_inE hi_31 hx_30 (by decide)) (by rw [am_clT hi_31 hx_30 (by decide), hI_33]; exact (mk_gs5 hx_27)) rfl ?_
          refine ar_aload_n (j := 0) (q := 81) rfl rfl rfl rfl ?_
          refine ar_getf (v := .ref 2) (q := 84) rfl rfl mk_0 rfl rfl ?_
          refine ar_getf (v := .ref 5) (q := 87) rfl rfl mk_2 rfl rfl ?_
          refine ar_iload_n (j := 2) (q := 88) rfl rfl rfl rfl ?_
          obtain ⟨j_34, hx_35, hi_36, h⟩ := h
          refine ar_aald (c2 := 6 + j_34) (q := 89) rfl mk_5 (am_inE hi_36 hx_35 (by decide)) (congrArg (fun z => some (6 + z)) (am_clT hi_36 hx_35 (by decide))) rfl ?_
          refine ar_iload_n (j := 1) (q := 90) rfl rfl rfl rfl ?_
          refine ar_iload_n (j := 3) (q := 91) rfl rfl rfl rfl ?_
          obtain ⟨j_37, hx_38, hi_39, h⟩ := h
          obtain ⟨I_40, hI_41⟩ : ∃ z : Nat → Nat → Int32, z = va_up I_32 (6 + j_34) (upd (I_32 (6 + j_34)) j_37 x) := ⟨_, rfl⟩
          have h := h I_40 hI_41
          refine ar_iast (hp2 := am_mk I_40 L_18) (q := 92) rfl (mk_g5 hx_35) (am_inE hi_39 hx_38 (by decide)) (by rw [am_clT hi_39 hx_38 (by decide), hI_41]; exact (mk_gs5 hx_35)) rfl ?_
          refine ar_iload (q := 94) rfl rfl rfl ?_
          exact ar_iret rfl rfl h
        · have h := hB c_19
          clear hA hB
          refine ar_aload_n (j := 0) (q := 49) rfl rfl rfl rfl ?_
          refine ar_iload (q := 51) rfl rfl rfl ?_
          refine ar_invv (as := [.int z_16]) (rest := []) (b2 := (0, 0)) (b3 := (0, 0)) (q := 54) rfl rfl rfl rfl mk_0 rfl rfl rfl rfl rfl ?_
          refine am_meth_mono d _ _ _ _ _ (fun v9 m9 h9 => ?_) h
          obtain ⟨z_42, I_43, L_44, rfl, rfl, h⟩ := h9
          show am_Run am_X0 (am_meth d) 4 R 54 [some (.ref 0), some (.int a), some (.int b), some (.int x), some (.int z_16), none] [.int z_42] (am_mk I_43 L_44, 0, 0)
          exact ar_iret rfl rfl h
      · have h := hB c_15
        clear hA hB
        refine ar_aload_n (j := 0) (q := 28) rfl rfl rfl rfl ?_
        refine ar_iconst (v := (-1 : Int32)) (q := 29) rfl rfl rfl ?_
        refine ar_invv (as := [.int (-1 : Int32)]) (rest := []) (b2 := (0, 0)) (b3 := (0, 0)) (q := 32) rfl rfl rfl rfl mk_0 rfl rfl rfl rfl rfl ?_
        refine am_meth_mono d _ _ _ _ _ (fun v9 m9 h9 => ?_) h
        obtain ⟨z_45, I_46, L_47, rfl, rfl, h⟩ := h9
        show am_Run am_X0 (am_meth d) 4 R 32 [some (.ref 0), some (.int a), some (.int b), some (.int x), none, none] [.int z_45] (am_mk I_46 L_47, 0, 0)
        exact ar_iret rfl rfl h
theorem r_H_limit_0 {d : Nat} {R : am_R} {I : Nat → Nat → Int32} {L : Nat → Nat → Int64} {l : Int32} {x : Int32} (h : am_meth d 147 [.ref 2, .int l] (am_mk I L, 0, 0) (am_ri (fun z_1 I_2 L_3 => ((¬ z_1 = 0 → (am_meth d 5 [.int x, .int 0, .int 180] (am_mk I_2 L_3, 0, 0) (am_ri (fun z_5 I_6 L_7 => ((z_5 = 0 → (∃ j_9 : Nat, j_9 < 5 ∧ l = nI j_9 ∧ (∃ j_12 : Nat, j_12 < 5 ∧ l = nI j_12 ∧ (∀ I_15 : Nat → Nat → Int32, I_15 = va_up I_6 4 (upd (I_6 4) j_12 x) → (R (some (.int (I_6 4 j_9))) (am_mk I_15 L_7, 0, 0)))))) ∧ (¬ (z_5 = 0) → (am_meth d 2 [.ref 0, .int z_5] (am_mk I_6 L_7, 0, 0) (am_ri (fun z_17 I_18 L_19 => R (some (.int z_17)) (am_mk I_18 L_19, 0, 0)))))))))) ∧ (¬ (¬ z_1 = 0) → (am_meth d 2 [.ref 0, .int (-1 : Int32)] (am_mk I_2 L_3, 0, 0) (am_ri (fun z_20 I_21 L_22 => R (some (.int z_20)) (am_mk I_21 L_22, 0, 0))))))))) : am_Run am_X0 (am_meth d) 6 R 0 [some (.ref 0), some (.int l), some (.int x), none, none] [] (am_mk I L, 0, 0) := by
  refine ar_aload_n (j := 0) (q := 1) rfl rfl rfl rfl ?_
  refine ar_getf (v := .ref 2) (q := 4) rfl rfl mk_0 rfl rfl ?_
  refine ar_iload_n (j := 1) (q := 5) rfl rfl rfl rfl ?_
  refine ar_invv (as := [.int l]) (rest := []) (b2 := (0, 0)) (b3 := (0, 0)) (q := 8) rfl rfl rfl rfl mk_2 rfl rfl rfl rfl rfl ?_
  refine am_meth_mono d _ _ _ _ _ (fun v9 m9 h9 => ?_) h
  obtain ⟨z_1, I_2, L_3, rfl, rfl, h⟩ := h9
  show am_Run am_X0 (am_meth d) 6 R 8 [some (.ref 0), some (.int l), some (.int x), none, none] [.int z_1] (am_mk I_2 L_3, 0, 0)
  obtain ⟨hA, hB⟩ := h
  refine ar_b0 am_c_ne (t := 17) (q := 11) rfl rfl rfl (fun c_4 => ?_) (fun c_4 => ?_)
  · have h := hA c_4
    clear hA hB
    refine ar_iload_n (j := 2) (q := 18) rfl rfl rfl rfl ?_
    refine ar_iconst (v := 0) (q := 19) rfl rfl rfl ?_
    refine ar_sipush (v := 180) (q := 22) rfl rfl rfl ?_
    refine ar_invs (as := [.int x, .int 0, .int 180]) (rest := []) (b2 := (0, 0)) (b3 := (0, 0)) (q := 25) rfl rfl rfl rfl rfl rfl rfl rfl rfl ?_
    refine am_meth_mono d _ _ _ _ _ (fun v9 m9 h9 => ?_) h
    obtain ⟨z_5, I_6, L_7, rfl, rfl, h⟩ := h9
    show am_Run am_X0 (am_meth d) 6 R 25 [some (.ref 0), some (.int l), some (.int x), none, none] [.int z_5] (am_mk I_6 L_7, 0, 0)
    refine ar_istore_n (j := 3) (ls' := [some (.ref 0), some (.int l), some (.int x), some (.int z_5), none]) (q := 26) rfl rfl rfl rfl rfl ?_
    refine ar_iload_n (j := 3) (q := 27) rfl rfl rfl rfl ?_
    obtain ⟨hA, hB⟩ := h
    refine ar_b0 am_c_eq (t := 36) (q := 30) rfl rfl rfl (fun c_8 => ?_) (fun c_8 => ?_)
    · have h := hA c_8
      clear hA hB
      refine ar_aload_n (j := 0) (q := 37) rfl rfl rfl rfl ?_
      refine ar_getf (v := .ref 2) (q := 40) rfl rfl mk_0 rfl rfl ?_
      refine ar_getf (v := .ref 4) (q := 43) rfl rfl mk_2 rfl rfl ?_
      refine ar_iload_n (j := 1) (q := 44) rfl rfl rfl rfl ?_
      obtain ⟨j_9, hx_10, hi_11, h⟩ := h
      refine ar_iald (v := I_6 4 j_9) (q := 45) rfl mk_4 (am_inE hi_11 hx_10 (by decide)) (am_clE hi_11 hx_10 (by decide)) rfl ?_
      refine ar_istore (ls' := [some (.ref 0), some (.int l), some (.int x), some (.int z_5), some (.int (I_6 4 j_9))]) (q := 47) rfl rfl rfl rfl ?_
      refine ar_aload_n (j := 0) (q := 48) rfl rfl rfl rfl ?_
      refine ar_getf (v := .ref 2) (q := 51) rfl rfl mk_0 rfl rfl ?_
      refine ar_getf (v := .ref 4) (q := 54) rfl rfl mk_2 rfl rfl ?_
      refine ar_iload_n (j := 1) (q := 55) rfl rfl rfl rfl ?_
      refine ar_iload_n (j := 2) (q := 56) rfl rfl rfl rfl ?_
      obtain ⟨j_12, hx_13, hi_14, h⟩ := h
      obtain ⟨I_15, hI_16⟩ : ∃ z : Nat → Nat → Int32, z = va_up I_6 4 (upd (I_6 4) j_12 x) := ⟨_, rfl⟩
      have h := h I_15 hI_16
      refine ar_iast (hp2 := am_mk I_15 L_7) (q := 57) rfl mk_4 (am_inE hi_14 hx_13 (by decide)) (by rw [am_clT hi_14 hx_13 (by decide), hI_16]; exact mk_s4) rfl ?_
      refine ar_iload (q := 59) rfl rfl rfl ?_
      exact ar_iret rfl rfl h
    · have h := hB c_8
      clear hA hB
      refine ar_aload_n (j := 0) (q := 31) rfl rfl rfl rfl ?_
      refine ar_iload_n (j := 3) (q := 32) rfl rfl rfl rfl ?_
      refine ar_invv (as := [.int z_5]) (rest := []) (b2 := (0, 0)) (b3 := (0, 0)) (q := 35) rfl rfl rfl rfl mk_0 rfl rfl rfl rfl rfl ?_
      refine am_meth_mono d _ _ _ _ _ (fun v9 m9 h9 => ?_) h
      obtain ⟨z_17, I_18, L_19, rfl, rfl, h⟩ := h9
      show am_Run am_X0 (am_meth d) 6 R 35 [some (.ref 0), some (.int l), some (.int x), some (.int z_5), none] [.int z_17] (am_mk I_18 L_19, 0, 0)
      exact ar_iret rfl rfl h
  · have h := hB c_4
    clear hA hB
    refine ar_aload_n (j := 0) (q := 12) rfl rfl rfl rfl ?_
    refine ar_iconst (v := (-1 : Int32)) (q := 13) rfl rfl rfl ?_
    refine ar_invv (as := [.int (-1 : Int32)]) (rest := []) (b2 := (0, 0)) (b3 := (0, 0)) (q := 16) rfl rfl rfl rfl mk_0 rfl rfl rfl rfl rfl ?_
    refine am_meth_mono d _ _ _ _ _ (fun v9 m9 h9 => ?_) h
    obtain ⟨z_20, I_21, L_22, rfl, rfl, h⟩ := h9
    show am_Run am_X0 (am_meth d) 6 R 16 [some (.ref 0), some (.int l), some (.int x), none, none] [.int z_20] (am_mk I_21 L_22, 0, 0)
    exact ar_iret rfl rfl h
theorem r_H_keeper_0 {d : Nat} {R : am_R} {I : Nat → Nat → Int32} {L : Nat → Nat → Int64} {t : Int32} {b : Int32} {p : Int32} {m : Int32} (h : am_meth d 146 [.ref 2, .int t] (am_mk I L, 0, 0) (am_ri (fun z_1 I_2 L_3 => ((¬ z_1 = 0 → (((b < 0 → (am_meth d 2 [.ref 0, .int (-4 : Int32)] (am_mk I_2 L_3, 0, 0) (am_ri (fun z_6 I_7 L_8 => R (some (.int z_6)) (am_mk I_7 L_8, 0, 0))))) ∧ (¬ (b < 0) → (((p < 1 → (am_meth d 2 [.ref 0, .int (-4 : Int32)] (am_mk I_2 L_3, 0, 0) (am_ri (fun z_10 I_11 L_12 => R (some (.int z_10)) (am_mk I_11 L_12, 0, 0))))) ∧ (¬ (p < 1) → (((0 ≤ m → (((255 < b → (am_meth d 2 [.ref 0, .int (-6 : Int32)] (am_mk I_2 L_3, 0, 0) (am_ri (fun z_15 I_16 L_17 => R (some (.int z_15)) (am_mk I_16 L_17, 0, 0))))) ∧ (¬ (255 < b) → (((2 < p → (am_meth d 2 [.ref 0, .int (-6 : Int32)] (am_mk I_2 L_3, 0, 0) (am_ri (fun z_19 I_20 L_21 => R (some (.int z_19)) (am_mk I_20 L_21, 0, 0))))) ∧ (¬ (2 < p) → (((m ≤ 99999 → ((((I_2 16 0) < 20 → (am_meth d 53 [.ref 16, .int t, .int b, .int p, .int m] (am_mk I_2 L_3, 0, 0) (am_ri (fun z_24 I_25 L_26 => R (some (.int z_24)) (am_mk I_25 L_26, 0, 0))))) ∧ (¬ ((I_2 16 0) < 20) → (am_meth d 2 [.ref 0, .int (-6 : Int32)] (am_mk I_2 L_3, 0, 0) (am_ri (fun z_27 I_28 L_29 => R (some (.int z_27)) (am_mk I_28 L_29, 0, 0)))))))) ∧ (¬ (m ≤ 99999) → (am_meth d 2 [.ref 0, .int (-6 : Int32)] (am_mk I_2 L_3, 0, 0) (am_ri (fun z_30 I_31 L_32 => R (some (.int z_30)) (am_mk I_31 L_32, 0, 0)))))))))))))) ∧ (¬ (0 ≤ m) → (am_meth d 2 [.ref 0, .int (-4 : Int32)] (am_mk I_2 L_3, 0, 0) (am_ri (fun z_33 I_34 L_35 => R (some (.int z_33)) (am_mk I_34 L_35, 0, 0)))))))))))))) ∧ (¬ (¬ z_1 = 0) → (am_meth d 2 [.ref 0, .int (-1 : Int32)] (am_mk I_2 L_3, 0, 0) (am_ri (fun z_36 I_37 L_38 => R (some (.int z_36)) (am_mk I_37 L_38, 0, 0))))))))) : am_Run am_X0 (am_meth d) 7 R 0 [some (.ref 0), some (.int t), some (.int b), some (.int p), some (.int m)] [] (am_mk I L, 0, 0) := by
  refine ar_aload_n (j := 0) (q := 1) rfl rfl rfl rfl ?_
  refine ar_getf (v := .ref 2) (q := 4) rfl rfl mk_0 rfl rfl ?_
  refine ar_iload_n (j := 1) (q := 5) rfl rfl rfl rfl ?_
  refine ar_invv (as := [.int t]) (rest := []) (b2 := (0, 0)) (b3 := (0, 0)) (q := 8) rfl rfl rfl rfl mk_2 rfl rfl rfl rfl rfl ?_
  refine am_meth_mono d _ _ _ _ _ (fun v9 m9 h9 => ?_) h
  obtain ⟨z_1, I_2, L_3, rfl, rfl, h⟩ := h9
  show am_Run am_X0 (am_meth d) 7 R 8 [some (.ref 0), some (.int t), some (.int b), some (.int p), some (.int m)] [.int z_1] (am_mk I_2 L_3, 0, 0)
  obtain ⟨hA, hB⟩ := h
  refine ar_b0 am_c_ne (t := 17) (q := 11) rfl rfl rfl (fun c_4 => ?_) (fun c_4 => ?_)
  · have h := hA c_4
    clear hA hB
    refine ar_iload_n (j := 2) (q := 18) rfl rfl rfl rfl ?_
    obtain ⟨hA, hB⟩ := h
    refine ar_b0 am_c_lt (t := 31) (q := 21) rfl rfl rfl (fun c_5 => ?_) (fun c_5 => ?_)
    · have h := hA c_5
      clear hA hB
      refine ar_aload_n (j := 0) (q := 32) rfl rfl rfl rfl ?_
      refine ar_bipush (v := (-4 : Int32)) (q := 34) rfl rfl rfl ?_
      refine ar_invv (as := [.int (-4 : Int32)]) (rest := []) (b2 := (0, 0)) (b3 := (0, 0)) (q := 37) rfl rfl rfl rfl mk_0 rfl rfl rfl rfl rfl ?_
      refine am_meth_mono d _ _ _ _ _ (fun v9 m9 h9 => ?_) h
      obtain ⟨z_6, I_7, L_8, rfl, rfl, h⟩ := h9
      show am_Run am_X0 (am_meth d) 7 R 37 [some (.ref 0), some (.int t), some (.int b), some (.int p), some (.int m)] [.int z_6] (am_mk I_7 L_8, 0, 0)
      exact ar_iret rfl rfl h
    · have h := hB c_5
      clear hA hB
      refine ar_iload_n (j := 3) (q := 22) rfl rfl rfl rfl ?_
      refine ar_iconst (v := 1) (q := 23) rfl rfl rfl ?_
      obtain ⟨hA, hB⟩ := h
      refine ar_br am_c_lt (t := 31) (q := 26) rfl rfl rfl (fun c_9 => ?_) (fun c_9 => ?_)
      · have h := hA c_9
        clear hA hB
        refine ar_aload_n (j := 0) (q := 32) rfl rfl rfl rfl ?_
        refine ar_bipush (v := (-4 : Int32)) (q := 34) rfl rfl rfl ?_
        refine ar_invv (as := [.int (-4 : Int32)]) (rest := []) (b2 := (0, 0)) (b3 := (0, 0)) (q := 37) rfl rfl rfl rfl mk_0 rfl rfl rfl rfl rfl ?_
        refine am_meth_mono d _ _ _ _ _ (fun v9 m9 h9 => ?_) h
        obtain ⟨z_10, I_11, L_12, rfl, rfl, h⟩ := h9
        show am_Run am_X0 (am_meth d) 7 R 37 [some (.ref 0), some (.int t), some (.int b), some (.int p), some (.int m)] [.int z_10] (am_mk I_11 L_12, 0, 0)
        exact ar_iret rfl rfl h
      · have h := hB c_9
        clear hA hB
        refine ar_iload (q := 28) rfl rfl rfl ?_
        obtain ⟨hA, hB⟩ := h
        refine ar_b0 am_c_ge (t := 38) (q := 31) rfl rfl rfl (fun c_13 => ?_) (fun c_13 => ?_)
        · have h := hA c_13
          clear hA hB
          refine ar_iload_n (j := 2) (q := 39) rfl rfl rfl rfl ?_
          refine ar_sipush (v := 255) (q := 42) rfl rfl rfl ?_
          obtain ⟨hA, hB⟩ := h
          refine ar_br am_c_gt (t := 57) (q := 45) rfl rfl rfl (fun c_14 => ?_) (fun c_14 => ?_)
          · have h := hA c_14
            clear hA hB
            refine ar_aload_n (j := 0) (q := 58) rfl rfl rfl rfl ?_
            refine ar_bipush (v := (-6 : Int32)) (q := 60) rfl rfl rfl ?_
            refine ar_invv (as := [.int (-6 : Int32)]) (rest := []) (b2 := (0, 0)) (b3 := (0, 0)) (q := 63) rfl rfl rfl rfl mk_0 rfl rfl rfl rfl rfl ?_
            refine am_meth_mono d _ _ _ _ _ (fun v9 m9 h9 => ?_) h
            obtain ⟨z_15, I_16, L_17, rfl, rfl, h⟩ := h9
            show am_Run am_X0 (am_meth d) 7 R 63 [some (.ref 0), some (.int t), some (.int b), some (.int p), some (.int m)] [.int z_15] (am_mk I_16 L_17, 0, 0)
            exact ar_iret rfl rfl h
          · have h := hB c_14
            clear hA hB
            refine ar_iload_n (j := 3) (q := 46) rfl rfl rfl rfl ?_
            refine ar_iconst (v := 2) (q := 47) rfl rfl rfl ?_
            obtain ⟨hA, hB⟩ := h
            refine ar_br am_c_gt (t := 57) (q := 50) rfl rfl rfl (fun c_18 => ?_) (fun c_18 => ?_)
            · have h := hA c_18
              clear hA hB
              refine ar_aload_n (j := 0) (q := 58) rfl rfl rfl rfl ?_
              refine ar_bipush (v := (-6 : Int32)) (q := 60) rfl rfl rfl ?_
              refine ar_invv (as := [.int (-6 : Int32)]) (rest := []) (b2 := (0, 0)) (b3 := (0, 0)) (q := 63) rfl rfl rfl rfl mk_0 rfl rfl rfl rfl rfl ?_
              refine am_meth_mono d _ _ _ _ _ (fun v9 m9 h9 => ?_) h
              obtain ⟨z_19, I_20, L_21, rfl, rfl, h⟩ := h9
              show am_Run am_X0 (am_meth d) 7 R 63 [some (.ref 0), some (.int t), some (.int b), some (.int p), some (.int m)] [.int z_19] (am_mk I_20 L_21, 0, 0)
              exact ar_iret rfl rfl h
            · have h := hB c_18
              clear hA hB
              refine ar_iload (q := 52) rfl rfl rfl ?_
              refine ar_ldc (v := 99999) (q := 54) rfl rfl rfl ?_
              obtain ⟨hA, hB⟩ := h
              refine ar_br am_c_le (t := 64) (q := 57) rfl rfl rfl (fun c_22 => ?_) (fun c_22 => ?_)
              · have h := hA c_22
                clear hA hB
                refine ar_aload_n (j := 0) (q := 65) rfl rfl rfl rfl ?_
                refine ar_getf (v := .ref 16) (q := 68) rfl rfl mk_0 rfl rfl ?_
                refine ar_getf (v := .int (I_2 16 0)) (q := 71) rfl rfl mk_16 rfl rfl ?_
                refine ar_bipush (v := 20) (q := 73) rfl rfl rfl ?_
                obtain ⟨hA, hB⟩ := h
                refine ar_br am_c_lt (t := 83) (q := 76) rfl rfl rfl (fun c_23 => ?_) (fun c_23 => ?_)
                · have h := hA c_23
                  clear hA hB
                  refine ar_aload_n (j := 0) (q := 84) rfl rfl rfl rfl ?_
                  refine ar_getf (v := .ref 16) (q := 87) rfl rfl mk_0 rfl rfl ?_
                  refine ar_iload_n (j := 1) (q := 88) rfl rfl rfl rfl ?_
                  refine ar_iload_n (j := 2) (q := 89) rfl rfl rfl rfl ?_
                  refine ar_iload_n (j := 3) (q := 90) rfl rfl rfl rfl ?_
                  refine ar_iload (q := 92) rfl rfl rfl ?_
                  refine ar_invv (as := [.int t, .int b, .int p, .int m]) (rest := []) (b2 := (0, 0)) (b3 := (0, 0)) (q := 95) rfl rfl rfl rfl mk_16 rfl rfl rfl rfl rfl ?_
                  refine am_meth_mono d _ _ _ _ _ (fun v9 m9 h9 => ?_) h
                  obtain ⟨z_24, I_25, L_26, rfl, rfl, h⟩ := h9
                  show am_Run am_X0 (am_meth d) 7 R 95 [some (.ref 0), some (.int t), some (.int b), some (.int p), some (.int m)] [.int z_24] (am_mk I_25 L_26, 0, 0)
                  exact ar_iret rfl rfl h
                · have h := hB c_23
                  clear hA hB
                  refine ar_aload_n (j := 0) (q := 77) rfl rfl rfl rfl ?_
                  refine ar_bipush (v := (-6 : Int32)) (q := 79) rfl rfl rfl ?_
                  refine ar_invv (as := [.int (-6 : Int32)]) (rest := []) (b2 := (0, 0)) (b3 := (0, 0)) (q := 82) rfl rfl rfl rfl mk_0 rfl rfl rfl rfl rfl ?_
                  refine am_meth_mono d _ _ _ _ _ (fun v9 m9 h9 => ?_) h
                  obtain ⟨z_27, I_28, L_29, rfl, rfl, h⟩ := h9
                  show am_Run am_X0 (am_meth d) 7 R 82 [some (.ref 0), some (.int t), some (.int b), some (.int p), some (.int m)] [.int z_27] (am_mk I_28 L_29, 0, 0)
                  exact ar_iret rfl rfl h
              · have h := hB c_22
                clear hA hB
                refine ar_aload_n (j := 0) (q := 58) rfl rfl rfl rfl ?_
                refine ar_bipush (v := (-6 : Int32)) (q := 60) rfl rfl rfl ?_
                refine ar_invv (as := [.int (-6 : Int32)]) (rest := []) (b2 := (0, 0)) (b3 := (0, 0)) (q := 63) rfl rfl rfl rfl mk_0 rfl rfl rfl rfl rfl ?_
                refine am_meth_mono d _ _ _ _ _ (fun v9 m9 h9 => ?_) h
                obtain ⟨z_30, I_31, L_32, rfl, rfl, h⟩ := h9
                show am_Run am_X0 (am_meth d) 7 R 63 [some (.ref 0), some (.int t), some (.int b), some (.int p), some (.int m)] [.int z_30] (am_mk I_31 L_32, 0, 0)
                exact ar_iret rfl rfl h
        · have h := hB c_13
          clear hA hB
          refine ar_aload_n (j := 0) (q := 32) rfl rfl rfl rfl ?_
          refine ar_bipush (v := (-4 : Int32)) (q := 34) rfl rfl rfl ?_
          refine ar_invv (as := [.int (-4 : Int32)]) (rest := []) (b2 := (0, 0)) (b3 := (0, 0)) (q := 37) rfl rfl rfl rfl mk_0 rfl rfl rfl rfl rfl ?_
          refine am_meth_mono d _ _ _ _ _ (fun v9 m9 h9 => ?_) h
          obtain ⟨z_33, I_34, L_35, rfl, rfl, h⟩ := h9
          show am_Run am_X0 (am_meth d) 7 R 37 [some (.ref 0), some (.int t), some (.int b), some (.int p), some (.int m)] [.int z_33] (am_mk I_34 L_35, 0, 0)
          exact ar_iret rfl rfl h
  · have h := hB c_4
    clear hA hB
    refine ar_aload_n (j := 0) (q := 12) rfl rfl rfl rfl ?_
    refine ar_iconst (v := (-1 : Int32)) (q := 13) rfl rfl rfl ?_
    refine ar_invv (as := [.int (-1 : Int32)]) (rest := []) (b2 := (0, 0)) (b3 := (0, 0)) (q := 16) rfl rfl rfl rfl mk_0 rfl rfl rfl rfl rfl ?_
    refine am_meth_mono d _ _ _ _ _ (fun v9 m9 h9 => ?_) h
    obtain ⟨z_36, I_37, L_38, rfl, rfl, h⟩ := h9
    show am_Run am_X0 (am_meth d) 7 R 16 [some (.ref 0), some (.int t), some (.int b), some (.int p), some (.int m)] [.int z_36] (am_mk I_37 L_38, 0, 0)
    exact ar_iret rfl rfl h
theorem r_H_house_0 {d : Nat} {R : am_R} {I : Nat → Nat → Int32} {L : Nat → Nat → Int64} {t : Int32} {b : Int32} (h : am_meth d 146 [.ref 2, .int t] (am_mk I L, 0, 0) (am_ri (fun z_1 I_2 L_3 => ((¬ z_1 = 0 → (am_meth d 5 [.int b, .int 0, .int 255] (am_mk I_2 L_3, 0, 0) (am_ri (fun z_5 I_6 L_7 => ((z_5 = 0 → ((((I_6 42 0) < 20 → (am_meth d 49 [.ref 42, .int t, .int b] (am_mk I_6 L_7, 0, 0) (am_ri (fun z_10 I_11 L_12 => R (some (.int z_10)) (am_mk I_11 L_12, 0, 0))))) ∧ (¬ ((I_6 42 0) < 20) → (am_meth d 2 [.ref 0, .int (-6 : Int32)] (am_mk I_6 L_7, 0, 0) (am_ri (fun z_13 I_14 L_15 => R (some (.int z_13)) (am_mk I_14 L_15, 0, 0)))))))) ∧ (¬ (z_5 = 0) → (am_meth d 2 [.ref 0, .int z_5] (am_mk I_6 L_7, 0, 0) (am_ri (fun z_16 I_17 L_18 => R (some (.int z_16)) (am_mk I_17 L_18, 0, 0)))))))))) ∧ (¬ (¬ z_1 = 0) → (am_meth d 2 [.ref 0, .int (-1 : Int32)] (am_mk I_2 L_3, 0, 0) (am_ri (fun z_19 I_20 L_21 => R (some (.int z_19)) (am_mk I_20 L_21, 0, 0))))))))) : am_Run am_X0 (am_meth d) 8 R 0 [some (.ref 0), some (.int t), some (.int b), none] [] (am_mk I L, 0, 0) := by
  refine ar_aload_n (j := 0) (q := 1) rfl rfl rfl rfl ?_
  refine ar_getf (v := .ref 2) (q := 4) rfl rfl mk_0 rfl rfl ?_
  refine ar_iload_n (j := 1) (q := 5) rfl rfl rfl rfl ?_
  refine ar_invv (as := [.int t]) (rest := []) (b2 := (0, 0)) (b3 := (0, 0)) (q := 8) rfl rfl rfl rfl mk_2 rfl rfl rfl rfl rfl ?_
  refine am_meth_mono d _ _ _ _ _ (fun v9 m9 h9 => ?_) h
  obtain ⟨z_1, I_2, L_3, rfl, rfl, h⟩ := h9
  show am_Run am_X0 (am_meth d) 8 R 8 [some (.ref 0), some (.int t), some (.int b), none] [.int z_1] (am_mk I_2 L_3, 0, 0)
  obtain ⟨hA, hB⟩ := h
  refine ar_b0 am_c_ne (t := 17) (q := 11) rfl rfl rfl (fun c_4 => ?_) (fun c_4 => ?_)
  · have h := hA c_4
    clear hA hB
    refine ar_iload_n (j := 2) (q := 18) rfl rfl rfl rfl ?_
    refine ar_iconst (v := 0) (q := 19) rfl rfl rfl ?_
    refine ar_sipush (v := 255) (q := 22) rfl rfl rfl ?_
    refine ar_invs (as := [.int b, .int 0, .int 255]) (rest := []) (b2 := (0, 0)) (b3 := (0, 0)) (q := 25) rfl rfl rfl rfl rfl rfl rfl rfl rfl ?_
    refine am_meth_mono d _ _ _ _ _ (fun v9 m9 h9 => ?_) h
    obtain ⟨z_5, I_6, L_7, rfl, rfl, h⟩ := h9
    show am_Run am_X0 (am_meth d) 8 R 25 [some (.ref 0), some (.int t), some (.int b), none] [.int z_5] (am_mk I_6 L_7, 0, 0)
    refine ar_istore_n (j := 3) (ls' := [some (.ref 0), some (.int t), some (.int b), some (.int z_5)]) (q := 26) rfl rfl rfl rfl rfl ?_
    refine ar_iload_n (j := 3) (q := 27) rfl rfl rfl rfl ?_
    obtain ⟨hA, hB⟩ := h
    refine ar_b0 am_c_eq (t := 36) (q := 30) rfl rfl rfl (fun c_8 => ?_) (fun c_8 => ?_)
    · have h := hA c_8
      clear hA hB
      refine ar_aload_n (j := 0) (q := 37) rfl rfl rfl rfl ?_
      refine ar_getf (v := .ref 42) (q := 40) rfl rfl mk_0 rfl rfl ?_
      refine ar_getf (v := .int (I_6 42 0)) (q := 43) rfl rfl mk_42 rfl rfl ?_
      refine ar_bipush (v := 20) (q := 45) rfl rfl rfl ?_
      obtain ⟨hA, hB⟩ := h
      refine ar_br am_c_lt (t := 55) (q := 48) rfl rfl rfl (fun c_9 => ?_) (fun c_9 => ?_)
      · have h := hA c_9
        clear hA hB
        refine ar_aload_n (j := 0) (q := 56) rfl rfl rfl rfl ?_
        refine ar_getf (v := .ref 42) (q := 59) rfl rfl mk_0 rfl rfl ?_
        refine ar_iload_n (j := 1) (q := 60) rfl rfl rfl rfl ?_
        refine ar_iload_n (j := 2) (q := 61) rfl rfl rfl rfl ?_
        refine ar_invv (as := [.int t, .int b]) (rest := []) (b2 := (0, 0)) (b3 := (0, 0)) (q := 64) rfl rfl rfl rfl mk_42 rfl rfl rfl rfl rfl ?_
        refine am_meth_mono d _ _ _ _ _ (fun v9 m9 h9 => ?_) h
        obtain ⟨z_10, I_11, L_12, rfl, rfl, h⟩ := h9
        show am_Run am_X0 (am_meth d) 8 R 64 [some (.ref 0), some (.int t), some (.int b), some (.int z_5)] [.int z_10] (am_mk I_11 L_12, 0, 0)
        exact ar_iret rfl rfl h
      · have h := hB c_9
        clear hA hB
        refine ar_aload_n (j := 0) (q := 49) rfl rfl rfl rfl ?_
        refine ar_bipush (v := (-6 : Int32)) (q := 51) rfl rfl rfl ?_
        refine ar_invv (as := [.int (-6 : Int32)]) (rest := []) (b2 := (0, 0)) (b3 := (0, 0)) (q := 54) rfl rfl rfl rfl mk_0 rfl rfl rfl rfl rfl ?_
        refine am_meth_mono d _ _ _ _ _ (fun v9 m9 h9 => ?_) h
        obtain ⟨z_13, I_14, L_15, rfl, rfl, h⟩ := h9
        show am_Run am_X0 (am_meth d) 8 R 54 [some (.ref 0), some (.int t), some (.int b), some (.int z_5)] [.int z_13] (am_mk I_14 L_15, 0, 0)
        exact ar_iret rfl rfl h
    · have h := hB c_8
      clear hA hB
      refine ar_aload_n (j := 0) (q := 31) rfl rfl rfl rfl ?_
      refine ar_iload_n (j := 3) (q := 32) rfl rfl rfl rfl ?_
      refine ar_invv (as := [.int z_5]) (rest := []) (b2 := (0, 0)) (b3 := (0, 0)) (q := 35) rfl rfl rfl rfl mk_0 rfl rfl rfl rfl rfl ?_
      refine am_meth_mono d _ _ _ _ _ (fun v9 m9 h9 => ?_) h
      obtain ⟨z_16, I_17, L_18, rfl, rfl, h⟩ := h9
      show am_Run am_X0 (am_meth d) 8 R 35 [some (.ref 0), some (.int t), some (.int b), some (.int z_5)] [.int z_16] (am_mk I_17 L_18, 0, 0)
      exact ar_iret rfl rfl h
  · have h := hB c_4
    clear hA hB
    refine ar_aload_n (j := 0) (q := 12) rfl rfl rfl rfl ?_
    refine ar_iconst (v := (-1 : Int32)) (q := 13) rfl rfl rfl ?_
    refine ar_invv (as := [.int (-1 : Int32)]) (rest := []) (b2 := (0, 0)) (b3 := (0, 0)) (q := 16) rfl rfl rfl rfl mk_0 rfl rfl rfl rfl rfl ?_
    refine am_meth_mono d _ _ _ _ _ (fun v9 m9 h9 => ?_) h
    obtain ⟨z_19, I_20, L_21, rfl, rfl, h⟩ := h9
    show am_Run am_X0 (am_meth d) 8 R 16 [some (.ref 0), some (.int t), some (.int b), none] [.int z_19] (am_mk I_20 L_21, 0, 0)
    exact ar_iret rfl rfl h
theorem r_H_stay_0 {d : Nat} {R : am_R} {I : Nat → Nat → Int32} {L : Nat → Nat → Int64} {a : Int32} {f : Int32} {t : Int32} (h : am_meth d 50 [.ref 42, .int a] (am_mk I L, 0, 0) (am_ri (fun z_1 I_2 L_3 => ((¬ z_1 = 0 → (((f ≤ (I_2 66 0) → (am_meth d 2 [.ref 0, .int (-4 : Int32)] (am_mk I_2 L_3, 0, 0) (am_ri (fun z_6 I_7 L_8 => R (some (.int z_6)) (am_mk I_7 L_8, 0, 0))))) ∧ (¬ (f ≤ (I_2 66 0)) → (((f ≤ t → (((1500 < t → (am_meth d 2 [.ref 0, .int (-6 : Int32)] (am_mk I_2 L_3, 0, 0) (am_ri (fun z_11 I_12 L_13 => R (some (.int z_11)) (am_mk I_12 L_13, 0, 0))))) ∧ (¬ (1500 < t) → ((((I_2 66 1) < 60 → (am_meth d 115 [.ref 66, .int a, .int f, .int t] (am_mk I_2 L_3, 0, 0) (am_ri (fun z_15 I_16 L_17 => ((z_15 = 0 → (am_meth d 117 [.ref 66, .int a, .int f, .int t] (am_mk I_16 L_17, 0, 0) (am_ri (fun z_19 I_20 L_21 => R (some (.int z_19)) (am_mk I_20 L_21, 0, 0))))) ∧ (¬ (z_15 = 0) → (am_meth d 2 [.ref 0, .int (-3 : Int32)] (am_mk I_16 L_17, 0, 0) (am_ri (fun z_22 I_23 L_24 => R (some (.int z_22)) (am_mk I_23 L_24, 0, 0)))))))))) ∧ (¬ ((I_2 66 1) < 60) → (am_meth d 2 [.ref 0, .int (-6 : Int32)] (am_mk I_2 L_3, 0, 0) (am_ri (fun z_25 I_26 L_27 => R (some (.int z_25)) (am_mk I_26 L_27, 0, 0))))))))))) ∧ (¬ (f ≤ t) → (am_meth d 2 [.ref 0, .int (-4 : Int32)] (am_mk I_2 L_3, 0, 0) (am_ri (fun z_28 I_29 L_30 => R (some (.int z_28)) (am_mk I_29 L_30, 0, 0))))))))))) ∧ (¬ (¬ z_1 = 0) → (am_meth d 2 [.ref 0, .int (-1 : Int32)] (am_mk I_2 L_3, 0, 0) (am_ri (fun z_31 I_32 L_33 => R (some (.int z_31)) (am_mk I_32 L_33, 0, 0))))))))) : am_Run am_X0 (am_meth d) 9 R 0 [some (.ref 0), some (.int a), some (.int f), some (.int t)] [] (am_mk I L, 0, 0) := by
  refine ar_aload_n (j := 0) (q := 1) rfl rfl rfl rfl ?_
  refine ar_getf (v := .ref 42) (q := 4) rfl rfl mk_0 rfl rfl ?_
  refine ar_iload_n (j := 1) (q := 5) rfl rfl rfl rfl ?_
  refine ar_invv (as := [.int a]) (rest := []) (b2 := (0, 0)) (b3 := (0, 0)) (q := 8) rfl rfl rfl rfl mk_42 rfl rfl rfl rfl rfl ?_
  refine am_meth_mono d _ _ _ _ _ (fun v9 m9 h9 => ?_) h
  obtain ⟨z_1, I_2, L_3, rfl, rfl, h⟩ := h9
  show am_Run am_X0 (am_meth d) 9 R 8 [some (.ref 0), some (.int a), some (.int f), some (.int t)] [.int z_1] (am_mk I_2 L_3, 0, 0)
  obtain ⟨hA, hB⟩ := h
  refine ar_b0 am_c_ne (t := 17) (q := 11) rfl rfl rfl (fun c_4 => ?_) (fun c_4 => ?_)
  · have h := hA c_4
    clear hA hB
    refine ar_iload_n (j := 2) (q := 18) rfl rfl rfl rfl ?_
    refine ar_aload_n (j := 0) (q := 19) rfl rfl rfl rfl ?_
    refine ar_getf (v := .ref 66) (q := 22) rfl rfl mk_0 rfl rfl ?_
    refine ar_getf (v := .int (I_2 66 0)) (q := 25) rfl rfl mk_66 rfl rfl ?_
    obtain ⟨hA, hB⟩ := h
    refine ar_br am_c_le (t := 33) (q := 28) rfl rfl rfl (fun c_5 => ?_) (fun c_5 => ?_)
    · have h := hA c_5
      clear hA hB
      refine ar_aload_n (j := 0) (q := 34) rfl rfl rfl rfl ?_
      refine ar_bipush (v := (-4 : Int32)) (q := 36) rfl rfl rfl ?_
      refine ar_invv (as := [.int (-4 : Int32)]) (rest := []) (b2 := (0, 0)) (b3 := (0, 0)) (q := 39) rfl rfl rfl rfl mk_0 rfl rfl rfl rfl rfl ?_
      refine am_meth_mono d _ _ _ _ _ (fun v9 m9 h9 => ?_) h
      obtain ⟨z_6, I_7, L_8, rfl, rfl, h⟩ := h9
      show am_Run am_X0 (am_meth d) 9 R 39 [some (.ref 0), some (.int a), some (.int f), some (.int t)] [.int z_6] (am_mk I_7 L_8, 0, 0)
      exact ar_iret rfl rfl h
    · have h := hB c_5
      clear hA hB
      refine ar_iload_n (j := 3) (q := 29) rfl rfl rfl rfl ?_
      refine ar_iload_n (j := 2) (q := 30) rfl rfl rfl rfl ?_
      obtain ⟨hA, hB⟩ := h
      refine ar_br am_c_ge (t := 40) (q := 33) rfl rfl rfl (fun c_9 => ?_) (fun c_9 => ?_)
      · have h := hA c_9
        clear hA hB
        refine ar_iload_n (j := 3) (q := 41) rfl rfl rfl rfl ?_
        refine ar_sipush (v := 1500) (q := 44) rfl rfl rfl ?_
        obtain ⟨hA, hB⟩ := h
        refine ar_br am_c_gt (t := 59) (q := 47) rfl rfl rfl (fun c_10 => ?_) (fun c_10 => ?_)
        · have h := hA c_10
          clear hA hB
          refine ar_aload_n (j := 0) (q := 60) rfl rfl rfl rfl ?_
          refine ar_bipush (v := (-6 : Int32)) (q := 62) rfl rfl rfl ?_
          refine ar_invv (as := [.int (-6 : Int32)]) (rest := []) (b2 := (0, 0)) (b3 := (0, 0)) (q := 65) rfl rfl rfl rfl mk_0 rfl rfl rfl rfl rfl ?_
          refine am_meth_mono d _ _ _ _ _ (fun v9 m9 h9 => ?_) h
          obtain ⟨z_11, I_12, L_13, rfl, rfl, h⟩ := h9
          show am_Run am_X0 (am_meth d) 9 R 65 [some (.ref 0), some (.int a), some (.int f), some (.int t)] [.int z_11] (am_mk I_12 L_13, 0, 0)
          exact ar_iret rfl rfl h
        · have h := hB c_10
          clear hA hB
          refine ar_aload_n (j := 0) (q := 48) rfl rfl rfl rfl ?_
          refine ar_getf (v := .ref 66) (q := 51) rfl rfl mk_0 rfl rfl ?_
          refine ar_getf (v := .int (I_2 66 1)) (q := 54) rfl rfl mk_66 rfl rfl ?_
          refine ar_bipush (v := 60) (q := 56) rfl rfl rfl ?_
          obtain ⟨hA, hB⟩ := h
          refine ar_br am_c_lt (t := 66) (q := 59) rfl rfl rfl (fun c_14 => ?_) (fun c_14 => ?_)
          · have h := hA c_14
            clear hA hB
            refine ar_aload_n (j := 0) (q := 67) rfl rfl rfl rfl ?_
            refine ar_getf (v := .ref 66) (q := 70) rfl rfl mk_0 rfl rfl ?_
            refine ar_iload_n (j := 1) (q := 71) rfl rfl rfl rfl ?_
            refine ar_iload_n (j := 2) (q := 72) rfl rfl rfl rfl ?_
            refine ar_iload_n (j := 3) (q := 73) rfl rfl rfl rfl ?_
            refine ar_invv (as := [.int a, .int f, .int t]) (rest := []) (b2 := (0, 0)) (b3 := (0, 0)) (q := 76) rfl rfl rfl rfl mk_66 rfl rfl rfl rfl rfl ?_
            refine am_meth_mono d _ _ _ _ _ (fun v9 m9 h9 => ?_) h
            obtain ⟨z_15, I_16, L_17, rfl, rfl, h⟩ := h9
            show am_Run am_X0 (am_meth d) 9 R 76 [some (.ref 0), some (.int a), some (.int f), some (.int t)] [.int z_15] (am_mk I_16 L_17, 0, 0)
            obtain ⟨hA, hB⟩ := h
            refine ar_b0 am_c_eq (t := 86) (q := 79) rfl rfl rfl (fun c_18 => ?_) (fun c_18 => ?_)
            · have h := hA c_18
              clear hA hB
              refine ar_aload_n (j := 0) (q := 87) rfl rfl rfl rfl ?_
              refine ar_getf (v := .ref 66) (q := 90) rfl rfl mk_0 rfl rfl ?_
              refine ar_iload_n (j := 1) (q := 91) rfl rfl rfl rfl ?_
              refine ar_iload_n (j := 2) (q := 92) rfl rfl rfl rfl ?_
              refine ar_iload_n (j := 3) (q := 93) rfl rfl rfl rfl ?_
              refine ar_invv (as := [.int a, .int f, .int t]) (rest := []) (b2 := (0, 0)) (b3 := (0, 0)) (q := 96) rfl rfl rfl rfl mk_66 rfl rfl rfl rfl rfl ?_
              refine am_meth_mono d _ _ _ _ _ (fun v9 m9 h9 => ?_) h
              obtain ⟨z_19, I_20, L_21, rfl, rfl, h⟩ := h9
              show am_Run am_X0 (am_meth d) 9 R 96 [some (.ref 0), some (.int a), some (.int f), some (.int t)] [.int z_19] (am_mk I_20 L_21, 0, 0)
              exact ar_iret rfl rfl h
            · have h := hB c_18
              clear hA hB
              refine ar_aload_n (j := 0) (q := 80) rfl rfl rfl rfl ?_
              refine ar_bipush (v := (-3 : Int32)) (q := 82) rfl rfl rfl ?_
              refine ar_invv (as := [.int (-3 : Int32)]) (rest := []) (b2 := (0, 0)) (b3 := (0, 0)) (q := 85) rfl rfl rfl rfl mk_0 rfl rfl rfl rfl rfl ?_
              refine am_meth_mono d _ _ _ _ _ (fun v9 m9 h9 => ?_) h
              obtain ⟨z_22, I_23, L_24, rfl, rfl, h⟩ := h9
              show am_Run am_X0 (am_meth d) 9 R 85 [some (.ref 0), some (.int a), some (.int f), some (.int t)] [.int z_22] (am_mk I_23 L_24, 0, 0)
              exact ar_iret rfl rfl h
          · have h := hB c_14
            clear hA hB
            refine ar_aload_n (j := 0) (q := 60) rfl rfl rfl rfl ?_
            refine ar_bipush (v := (-6 : Int32)) (q := 62) rfl rfl rfl ?_
            refine ar_invv (as := [.int (-6 : Int32)]) (rest := []) (b2 := (0, 0)) (b3 := (0, 0)) (q := 65) rfl rfl rfl rfl mk_0 rfl rfl rfl rfl rfl ?_
            refine am_meth_mono d _ _ _ _ _ (fun v9 m9 h9 => ?_) h
            obtain ⟨z_25, I_26, L_27, rfl, rfl, h⟩ := h9
            show am_Run am_X0 (am_meth d) 9 R 65 [some (.ref 0), some (.int a), some (.int f), some (.int t)] [.int z_25] (am_mk I_26 L_27, 0, 0)
            exact ar_iret rfl rfl h
      · have h := hB c_9
        clear hA hB
        refine ar_aload_n (j := 0) (q := 34) rfl rfl rfl rfl ?_
        refine ar_bipush (v := (-4 : Int32)) (q := 36) rfl rfl rfl ?_
        refine ar_invv (as := [.int (-4 : Int32)]) (rest := []) (b2 := (0, 0)) (b3 := (0, 0)) (q := 39) rfl rfl rfl rfl mk_0 rfl rfl rfl rfl rfl ?_
        refine am_meth_mono d _ _ _ _ _ (fun v9 m9 h9 => ?_) h
        obtain ⟨z_28, I_29, L_30, rfl, rfl, h⟩ := h9
        show am_Run am_X0 (am_meth d) 9 R 39 [some (.ref 0), some (.int a), some (.int f), some (.int t)] [.int z_28] (am_mk I_29 L_30, 0, 0)
        exact ar_iret rfl rfl h
  · have h := hB c_4
    clear hA hB
    refine ar_aload_n (j := 0) (q := 12) rfl rfl rfl rfl ?_
    refine ar_iconst (v := (-1 : Int32)) (q := 13) rfl rfl rfl ?_
    refine ar_invv (as := [.int (-1 : Int32)]) (rest := []) (b2 := (0, 0)) (b3 := (0, 0)) (q := 16) rfl rfl rfl rfl mk_0 rfl rfl rfl rfl rfl ?_
    refine am_meth_mono d _ _ _ _ _ (fun v9 m9 h9 => ?_) h
    obtain ⟨z_31, I_32, L_33, rfl, rfl, h⟩ := h9
    show am_Run am_X0 (am_meth d) 9 R 16 [some (.ref 0), some (.int a), some (.int f), some (.int t)] [.int z_31] (am_mk I_32 L_33, 0, 0)
    exact ar_iret rfl rfl h
theorem r_H_stayOf_0 {d : Nat} {R : am_R} {I : Nat → Nat → Int32} {L : Nat → Nat → Int64} {s : Int32} {w : Int32} (h : am_meth d 118 [.ref 66, .int s] (am_mk I L, 0, 0) (am_ri (fun z_1 I_2 L_3 => ((¬ z_1 = 0 → ((((w : Int32).toInt = 0 → (∃ j_9 : Nat, j_9 < 60 ∧ s = nI j_9 ∧ (R (some (.int (I_2 67 j_9))) (am_mk I_2 L_3, 0, 0)))) ∧ ((w : Int32).toInt = 1 → (∃ j_12 : Nat, j_12 < 60 ∧ s = nI j_12 ∧ (R (some (.int (I_2 68 j_12))) (am_mk I_2 L_3, 0, 0)))) ∧ ((w : Int32).toInt = 2 → (∃ j_15 : Nat, j_15 < 60 ∧ s = nI j_15 ∧ (R (some (.int (I_2 69 j_15))) (am_mk I_2 L_3, 0, 0)))) ∧ ((w : Int32).toInt = 3 → (∃ j_18 : Nat, j_18 < 60 ∧ s = nI j_18 ∧ (R (some (.int (I_2 70 j_18))) (am_mk I_2 L_3, 0, 0)))) ∧ ((w : Int32).toInt = 4 → (∃ j_21 : Nat, j_21 < 60 ∧ s = nI j_21 ∧ (R (some (.int (I_2 71 j_21))) (am_mk I_2 L_3, 0, 0)))) ∧ ((w : Int32).toInt = 5 → (am_meth d 119 [.ref 66, .int s] (am_mk I_2 L_3, 0, 0) (am_ri (fun z_24 I_25 L_26 => ((z_24 = 0 → (R (some (.int 0)) (am_mk I_25 L_26, 0, 0))) ∧ (¬ (z_24 = 0) → (R (some (.int 1)) (am_mk I_25 L_26, 0, 0)))))))) ∧ (((w : Int32).toInt < 0 ∨ 5 < (w : Int32).toInt) → (am_meth d 2 [.ref 0, .int (-2 : Int32)] (am_mk I_2 L_3, 0, 0) (am_ri (fun z_5 I_6 L_7 => R (some (.int z_5)) (am_mk I_6 L_7, 0, 0)))))))) ∧ (¬ (¬ z_1 = 0) → (am_meth d 2 [.ref 0, .int (-1 : Int32)] (am_mk I_2 L_3, 0, 0) (am_ri (fun z_28 I_29 L_30 => R (some (.int z_28)) (am_mk I_29 L_30, 0, 0))))))))) : am_Run am_X0 (am_meth d) 10 R 0 [some (.ref 0), some (.int s), some (.int w)] [] (am_mk I L, 0, 0) := by
  refine ar_aload_n (j := 0) (q := 1) rfl rfl rfl rfl ?_
  refine ar_getf (v := .ref 66) (q := 4) rfl rfl mk_0 rfl rfl ?_
  refine ar_iload_n (j := 1) (q := 5) rfl rfl rfl rfl ?_
  refine ar_invv (as := [.int s]) (rest := []) (b2 := (0, 0)) (b3 := (0, 0)) (q := 8) rfl rfl rfl rfl mk_66 rfl rfl rfl rfl rfl ?_
  refine am_meth_mono d _ _ _ _ _ (fun v9 m9 h9 => ?_) h
  obtain ⟨z_1, I_2, L_3, rfl, rfl, h⟩ := h9
  show am_Run am_X0 (am_meth d) 10 R 8 [some (.ref 0), some (.int s), some (.int w)] [.int z_1] (am_mk I_2 L_3, 0, 0)
  obtain ⟨hA, hB⟩ := h
  refine ar_b0 am_c_ne (t := 17) (q := 11) rfl rfl rfl (fun c_4 => ?_) (fun c_4 => ?_)
  · have h := hA c_4
    clear hA hB
    refine ar_iload_n (j := 2) (q := 18) rfl rfl rfl rfl ?_
    obtain ⟨hT0, hT1, hT2, hT3, hT4, hT5, hD⟩ := h
    refine ar_tsw (t0 := 123) rfl rfl (fun c_8 => ?_) (fun c_8 => ?_)
    · have h := hD (by omega)
      clear hT0 hT1 hT2 hT3 hT4 hT5 hD
      refine ar_aload_n (j := 0) (q := 124) rfl rfl rfl rfl ?_
      refine ar_bipush (v := (-2 : Int32)) (q := 126) rfl rfl rfl ?_
      refine ar_invv (as := [.int (-2 : Int32)]) (rest := []) (b2 := (0, 0)) (b3 := (0, 0)) (q := 129) rfl rfl rfl rfl mk_0 rfl rfl rfl rfl rfl ?_
      refine am_meth_mono d _ _ _ _ _ (fun v9 m9 h9 => ?_) h
      obtain ⟨z_5, I_6, L_7, rfl, rfl, h⟩ := h9
      show am_Run am_X0 (am_meth d) 10 R 129 [some (.ref 0), some (.int s), some (.int w)] [.int z_5] (am_mk I_6 L_7, 0, 0)
      exact ar_iret rfl rfl h
    · rcases (show (w : Int32).toInt = 0 ∨ (w : Int32).toInt = 1 ∨ (w : Int32).toInt = 2 ∨ (w : Int32).toInt = 3 ∨ (w : Int32).toInt = 4 ∨ (w : Int32).toInt = 5 by omega) with e9 | e9 | e9 | e9 | e9 | e9
      · refine ⟨38, 56, by rw [e9]; rfl, rfl, ?_⟩
        have h := hT0 e9
        clear hT0 hT1 hT2 hT3 hT4 hT5 hD
        refine ar_aload_n (j := 0) (q := 57) rfl rfl rfl rfl ?_
        refine ar_getf (v := .ref 66) (q := 60) rfl rfl mk_0 rfl rfl ?_
        refine ar_getf (v := .ref 67) (q := 63) rfl rfl mk_66 rfl rfl ?_
        refine ar_iload_n (j := 1) (q := 64) rfl rfl rfl rfl ?_
        obtain ⟨j_9, hx_10, hi_11, h⟩ := h
        refine ar_iald (v := I_2 67 j_9) (q := 65) rfl mk_67 (am_inE hi_11 hx_10 (by decide)) (am_clE hi_11 hx_10 (by decide)) rfl ?_
        exact ar_iret rfl rfl h
      · refine ⟨48, 66, by rw [e9]; rfl, rfl, ?_⟩
        have h := hT1 e9
        clear hT0 hT1 hT2 hT3 hT4 hT5 hD
        refine ar_aload_n (j := 0) (q := 67) rfl rfl rfl rfl ?_
        refine ar_getf (v := .ref 66) (q := 70) rfl rfl mk_0 rfl rfl ?_
        refine ar_getf (v := .ref 68) (q := 73) rfl rfl mk_66 rfl rfl ?_
        refine ar_iload_n (j := 1) (q := 74) rfl rfl rfl rfl ?_
        obtain ⟨j_12, hx_13, hi_14, h⟩ := h
        refine ar_iald (v := I_2 68 j_12) (q := 75) rfl mk_68 (am_inE hi_14 hx_13 (by decide)) (am_clE hi_14 hx_13 (by decide)) rfl ?_
        exact ar_iret rfl rfl h
      · refine ⟨58, 76, by rw [e9]; rfl, rfl, ?_⟩
        have h := hT2 e9
        clear hT0 hT1 hT2 hT3 hT4 hT5 hD
        refine ar_aload_n (j := 0) (q := 77) rfl rfl rfl rfl ?_
        refine ar_getf (v := .ref 66) (q := 80) rfl rfl mk_0 rfl rfl ?_
        refine ar_getf (v := .ref 69) (q := 83) rfl rfl mk_66 rfl rfl ?_
        refine ar_iload_n (j := 1) (q := 84) rfl rfl rfl rfl ?_
        obtain ⟨j_15, hx_16, hi_17, h⟩ := h
        refine ar_iald (v := I_2 69 j_15) (q := 85) rfl mk_69 (am_inE hi_17 hx_16 (by decide)) (am_clE hi_17 hx_16 (by decide)) rfl ?_
        exact ar_iret rfl rfl h
      · refine ⟨68, 86, by rw [e9]; rfl, rfl, ?_⟩
        have h := hT3 e9
        clear hT0 hT1 hT2 hT3 hT4 hT5 hD
        refine ar_aload_n (j := 0) (q := 87) rfl rfl rfl rfl ?_
        refine ar_getf (v := .ref 66) (q := 90) rfl rfl mk_0 rfl rfl ?_
        refine ar_getf (v := .ref 70) (q := 93) rfl rfl mk_66 rfl rfl ?_
        refine ar_iload_n (j := 1) (q := 94) rfl rfl rfl rfl ?_
        obtain ⟨j_18, hx_19, hi_20, h⟩ := h
        refine ar_iald (v := I_2 70 j_18) (q := 95) rfl mk_70 (am_inE hi_20 hx_19 (by decide)) (am_clE hi_20 hx_19 (by decide)) rfl ?_
        exact ar_iret rfl rfl h
      · refine ⟨78, 96, by rw [e9]; rfl, rfl, ?_⟩
        have h := hT4 e9
        clear hT0 hT1 hT2 hT3 hT4 hT5 hD
        refine ar_aload_n (j := 0) (q := 97) rfl rfl rfl rfl ?_
        refine ar_getf (v := .ref 66) (q := 100) rfl rfl mk_0 rfl rfl ?_
        refine ar_getf (v := .ref 71) (q := 103) rfl rfl mk_66 rfl rfl ?_
        refine ar_iload_n (j := 1) (q := 104) rfl rfl rfl rfl ?_
        obtain ⟨j_21, hx_22, hi_23, h⟩ := h
        refine ar_iald (v := I_2 71 j_21) (q := 105) rfl mk_71 (am_inE hi_23 hx_22 (by decide)) (am_clE hi_23 hx_22 (by decide)) rfl ?_
        exact ar_iret rfl rfl h
      · refine ⟨88, 106, by rw [e9]; rfl, rfl, ?_⟩
        have h := hT5 e9
        clear hT0 hT1 hT2 hT3 hT4 hT5 hD
        refine ar_aload_n (j := 0) (q := 107) rfl rfl rfl rfl ?_
        refine ar_getf (v := .ref 66) (q := 110) rfl rfl mk_0 rfl rfl ?_
        refine ar_iload_n (j := 1) (q := 111) rfl rfl rfl rfl ?_
        refine ar_invv (as := [.int s]) (rest := []) (b2 := (0, 0)) (b3 := (0, 0)) (q := 114) rfl rfl rfl rfl mk_66 rfl rfl rfl rfl rfl ?_
        refine am_meth_mono d _ _ _ _ _ (fun v9 m9 h9 => ?_) h
        obtain ⟨z_24, I_25, L_26, rfl, rfl, h⟩ := h9
        show am_Run am_X0 (am_meth d) 10 R 114 [some (.ref 0), some (.int s), some (.int w)] [.int z_24] (am_mk I_25 L_26, 0, 0)
        obtain ⟨hA, hB⟩ := h
        refine ar_b0 am_c_eq (t := 121) (q := 117) rfl rfl rfl (fun c_27 => ?_) (fun c_27 => ?_)
        · have h := hA c_27
          clear hA hB
          refine ar_iconst (v := 0) (q := 122) rfl rfl rfl ?_
          exact ar_iret rfl rfl h
        · have h := hB c_27
          clear hA hB
          refine ar_iconst (v := 1) (q := 118) rfl rfl rfl ?_
          refine ar_goto (t := 122) rfl rfl ?_
          exact ar_iret rfl rfl h
  · have h := hB c_4
    clear hA hB
    refine ar_aload_n (j := 0) (q := 12) rfl rfl rfl rfl ?_
    refine ar_iconst (v := (-1 : Int32)) (q := 13) rfl rfl rfl ?_
    refine ar_invv (as := [.int (-1 : Int32)]) (rest := []) (b2 := (0, 0)) (b3 := (0, 0)) (q := 16) rfl rfl rfl rfl mk_0 rfl rfl rfl rfl rfl ?_
    refine am_meth_mono d _ _ _ _ _ (fun v9 m9 h9 => ?_) h
    obtain ⟨z_28, I_29, L_30, rfl, rfl, h⟩ := h9
    show am_Run am_X0 (am_meth d) 10 R 16 [some (.ref 0), some (.int s), some (.int w)] [.int z_28] (am_mk I_29 L_30, 0, 0)
    exact ar_iret rfl rfl h
theorem r_H_cancel_0 {d : Nat} {R : am_R} {I : Nat → Nat → Int32} {L : Nat → Nat → Int64} {s : Int32} (h : am_meth d 118 [.ref 66, .int s] (am_mk I L, 0, 0) (am_ri (fun z_1 I_2 L_3 => ((¬ z_1 = 0 → (am_meth d 119 [.ref 66, .int s] (am_mk I_2 L_3, 0, 0) (am_ri (fun z_5 I_6 L_7 => ((¬ z_5 = 0 → (am_meth d 2 [.ref 0, .int (-3 : Int32)] (am_mk I_6 L_7, 0, 0) (am_ri (fun z_9 I_10 L_11 => R (some (.int z_9)) (am_mk I_10 L_11, 0, 0))))) ∧ (¬ (¬ z_5 = 0) → (∃ j_12 : Nat, j_12 < 60 ∧ s = nI j_12 ∧ (((¬ (I_6 70 j_12) = 2 → (∃ j_16 : Nat, j_16 < 60 ∧ s = nI j_16 ∧ (∀ I_19 : Nat → Nat → Int32, I_19 = va_up I_6 70 (upd (I_6 70) j_16 2) → (∃ j_21 : Nat, j_21 < 60 ∧ s = nI j_21 ∧ (R (some (.int (I_19 71 j_21))) (am_mk I_19 L_7, 0, 0)))))) ∧ (¬ (¬ (I_6 70 j_12) = 2) → (am_meth d 2 [.ref 0, .int (-3 : Int32)] (am_mk I_6 L_7, 0, 0) (am_ri (fun z_24 I_25 L_26 => R (some (.int z_24)) (am_mk I_25 L_26, 0, 0)))))))))))))) ∧ (¬ (¬ z_1 = 0) → (am_meth d 2 [.ref 0, .int (-1 : Int32)] (am_mk I_2 L_3, 0, 0) (am_ri (fun z_27 I_28 L_29 => R (some (.int z_27)) (am_mk I_28 L_29, 0, 0))))))))) : am_Run am_X0 (am_meth d) 13 R 0 [some (.ref 0), some (.int s)] [] (am_mk I L, 0, 0) := by
  refine ar_aload_n (j := 0) (q := 1) rfl rfl rfl rfl ?_
  refine ar_getf (v := .ref 66) (q := 4) rfl rfl mk_0 rfl rfl ?_
  refine ar_iload_n (j := 1) (q := 5) rfl rfl rfl rfl ?_
  refine ar_invv (as := [.int s]) (rest := []) (b2 := (0, 0)) (b3 := (0, 0)) (q := 8) rfl rfl rfl rfl mk_66 rfl rfl rfl rfl rfl ?_
  refine am_meth_mono d _ _ _ _ _ (fun v9 m9 h9 => ?_) h
  obtain ⟨z_1, I_2, L_3, rfl, rfl, h⟩ := h9
  show am_Run am_X0 (am_meth d) 13 R 8 [some (.ref 0), some (.int s)] [.int z_1] (am_mk I_2 L_3, 0, 0)
  obtain ⟨hA, hB⟩ := h
  refine ar_b0 am_c_ne (t := 17) (q := 11) rfl rfl rfl (fun c_4 => ?_) (fun c_4 => ?_)
  · have h := hA c_4
    clear hA hB
    refine ar_aload_n (j := 0) (q := 18) rfl rfl rfl rfl ?_
    refine ar_getf (v := .ref 66) (q := 21) rfl rfl mk_0 rfl rfl ?_
    refine ar_iload_n (j := 1) (q := 22) rfl rfl rfl rfl ?_
    refine ar_invv (as := [.int s]) (rest := []) (b2 := (0, 0)) (b3 := (0, 0)) (q := 25) rfl rfl rfl rfl mk_66 rfl rfl rfl rfl rfl ?_
    refine am_meth_mono d _ _ _ _ _ (fun v9 m9 h9 => ?_) h
    obtain ⟨z_5, I_6, L_7, rfl, rfl, h⟩ := h9
    show am_Run am_X0 (am_meth d) 13 R 25 [some (.ref 0), some (.int s)] [.int z_5] (am_mk I_6 L_7, 0, 0)
    obtain ⟨hA, hB⟩ := h
    refine ar_b0 am_c_ne (t := 41) (q := 28) rfl rfl rfl (fun c_8 => ?_) (fun c_8 => ?_)
    · have h := hA c_8
      clear hA hB
      refine ar_aload_n (j := 0) (q := 42) rfl rfl rfl rfl ?_
      refine ar_bipush (v := (-3 : Int32)) (q := 44) rfl rfl rfl ?_
      refine ar_invv (as := [.int (-3 : Int32)]) (rest := []) (b2 := (0, 0)) (b3 := (0, 0)) (q := 47) rfl rfl rfl rfl mk_0 rfl rfl rfl rfl rfl ?_
      refine am_meth_mono d _ _ _ _ _ (fun v9 m9 h9 => ?_) h
      obtain ⟨z_9, I_10, L_11, rfl, rfl, h⟩ := h9
      show am_Run am_X0 (am_meth d) 13 R 47 [some (.ref 0), some (.int s)] [.int z_9] (am_mk I_10 L_11, 0, 0)
      exact ar_iret rfl rfl h
    · have h := hB c_8
      clear hA hB
      refine ar_aload_n (j := 0) (q := 29) rfl rfl rfl rfl ?_
      refine ar_getf (v := .ref 66) (q := 32) rfl rfl mk_0 rfl rfl ?_
      refine ar_getf (v := .ref 70) (q := 35) rfl rfl mk_66 rfl rfl ?_
      refine ar_iload_n (j := 1) (q := 36) rfl rfl rfl rfl ?_
      obtain ⟨j_12, hx_13, hi_14, h⟩ := h
      refine ar_iald (v := I_6 70 j_12) (q := 37) rfl mk_70 (am_inE hi_14 hx_13 (by decide)) (am_clE hi_14 hx_13 (by decide)) rfl ?_
      refine ar_iconst (v := 2) (q := 38) rfl rfl rfl ?_
      obtain ⟨hA, hB⟩ := h
      refine ar_br am_c_ne (t := 48) (q := 41) rfl rfl rfl (fun c_15 => ?_) (fun c_15 => ?_)
      · have h := hA c_15
        clear hA hB
        refine ar_aload_n (j := 0) (q := 49) rfl rfl rfl rfl ?_
        refine ar_getf (v := .ref 66) (q := 52) rfl rfl mk_0 rfl rfl ?_
        refine ar_getf (v := .ref 70) (q := 55) rfl rfl mk_66 rfl rfl ?_
        refine ar_iload_n (j := 1) (q := 56) rfl rfl rfl rfl ?_
        refine ar_iconst (v := 2) (q := 57) rfl rfl rfl ?_
        obtain ⟨j_16, hx_17, hi_18, h⟩ := h
        obtain ⟨I_19, hI_20⟩ : ∃ z : Nat → Nat → Int32, z = va_up I_6 70 (upd (I_6 70) j_16 2) := ⟨_, rfl⟩
        have h := h I_19 hI_20
        refine ar_iast (hp2 := am_mk I_19 L_7) (q := 58) rfl mk_70 (am_inE hi_18 hx_17 (by decide)) (by rw [am_clT hi_18 hx_17 (by decide), hI_20]; exact mk_s70) rfl ?_
        refine ar_aload_n (j := 0) (q := 59) rfl rfl rfl rfl ?_
        refine ar_getf (v := .ref 66) (q := 62) rfl rfl mk_0 rfl rfl ?_
        refine ar_getf (v := .ref 71) (q := 65) rfl rfl mk_66 rfl rfl ?_
        refine ar_iload_n (j := 1) (q := 66) rfl rfl rfl rfl ?_
        obtain ⟨j_21, hx_22, hi_23, h⟩ := h
        refine ar_iald (v := I_19 71 j_21) (q := 67) rfl mk_71 (am_inE hi_23 hx_22 (by decide)) (am_clE hi_23 hx_22 (by decide)) rfl ?_
        exact ar_iret rfl rfl h
      · have h := hB c_15
        clear hA hB
        refine ar_aload_n (j := 0) (q := 42) rfl rfl rfl rfl ?_
        refine ar_bipush (v := (-3 : Int32)) (q := 44) rfl rfl rfl ?_
        refine ar_invv (as := [.int (-3 : Int32)]) (rest := []) (b2 := (0, 0)) (b3 := (0, 0)) (q := 47) rfl rfl rfl rfl mk_0 rfl rfl rfl rfl rfl ?_
        refine am_meth_mono d _ _ _ _ _ (fun v9 m9 h9 => ?_) h
        obtain ⟨z_24, I_25, L_26, rfl, rfl, h⟩ := h9
        show am_Run am_X0 (am_meth d) 13 R 47 [some (.ref 0), some (.int s)] [.int z_24] (am_mk I_25 L_26, 0, 0)
        exact ar_iret rfl rfl h
  · have h := hB c_4
    clear hA hB
    refine ar_aload_n (j := 0) (q := 12) rfl rfl rfl rfl ?_
    refine ar_iconst (v := (-1 : Int32)) (q := 13) rfl rfl rfl ?_
    refine ar_invv (as := [.int (-1 : Int32)]) (rest := []) (b2 := (0, 0)) (b3 := (0, 0)) (q := 16) rfl rfl rfl rfl mk_0 rfl rfl rfl rfl rfl ?_
    refine am_meth_mono d _ _ _ _ _ (fun v9 m9 h9 => ?_) h
    obtain ⟨z_27, I_28, L_29, rfl, rfl, h⟩ := h9
    show am_Run am_X0 (am_meth d) 13 R 16 [some (.ref 0), some (.int s)] [.int z_27] (am_mk I_28 L_29, 0, 0)
    exact ar_iret rfl rfl h
theorem r_H_put_0 {d : Nat} {R : am_R} {I : Nat → Nat → Int32} {L : Nat → Nat → Int64} {v : Int32} (h : am_meth d 25 [.ref 0, .ref 95, .int v] (am_mk I L, 0, 0) (am_ri (fun z_1 I_2 L_3 => R (some (.int z_1)) (am_mk I_2 L_3, 0, 0)))) : am_Run am_X0 (am_meth d) 24 R 0 [some (.ref 0), some (.int v)] [] (am_mk I L, 0, 0) := by
  refine ar_aload_n (j := 0) (q := 1) rfl rfl rfl rfl ?_
  refine ar_aload_n (j := 0) (q := 2) rfl rfl rfl rfl ?_
  refine ar_getf (v := .ref 95) (q := 5) rfl rfl mk_0 rfl rfl ?_
  refine ar_iload_n (j := 1) (q := 6) rfl rfl rfl rfl ?_
  refine ar_invv (as := [.ref 95, .int v]) (rest := []) (b2 := (0, 0)) (b3 := (0, 0)) (q := 9) rfl rfl rfl rfl mk_0 rfl rfl rfl rfl rfl ?_
  refine am_meth_mono d _ _ _ _ _ (fun v9 m9 h9 => ?_) h
  obtain ⟨z_1, I_2, L_3, rfl, rfl, h⟩ := h9
  show am_Run am_X0 (am_meth d) 24 R 9 [some (.ref 0), some (.int v)] [.int z_1] (am_mk I_2 L_3, 0, 0)
  exact ar_iret rfl rfl h
theorem r_H_unput_0 {d : Nat} {R : am_R} {I : Nat → Nat → Int32} {L : Nat → Nat → Int64}  (h : am_meth d 89 [.ref 95] (am_mk I L, 0, 0) (am_rv (fun I_1 L_2 => R (some (.int (I 95 0))) (am_mk I_1 L_2, 0, 0)))) : am_Run am_X0 (am_meth d) 26 R 0 [some (.ref 0), none] [] (am_mk I L, 0, 0) := by
  refine ar_aload_n (j := 0) (q := 1) rfl rfl rfl rfl ?_
  refine ar_getf (v := .ref 95) (q := 4) rfl rfl mk_0 rfl rfl ?_
  refine ar_getf (v := .int (I 95 0)) (q := 7) rfl rfl mk_95 rfl rfl ?_
  refine ar_istore_n (j := 1) (ls' := [some (.ref 0), some (.int (I 95 0))]) (q := 8) rfl rfl rfl rfl rfl ?_
  refine ar_aload_n (j := 0) (q := 9) rfl rfl rfl rfl ?_
  refine ar_getf (v := .ref 95) (q := 12) rfl rfl mk_0 rfl rfl ?_
  refine ar_invv (as := []) (rest := []) (b2 := (0, 0)) (b3 := (0, 0)) (q := 15) rfl rfl rfl rfl mk_95 rfl rfl rfl rfl rfl ?_
  refine am_meth_mono d _ _ _ _ _ (fun v9 m9 h9 => ?_) h
  obtain ⟨I_1, L_2, rfl, rfl, h⟩ := h9
  show am_Run am_X0 (am_meth d) 26 R 15 [some (.ref 0), some (.int (I 95 0))] [] (am_mk I_1 L_2, 0, 0)
  refine ar_iload_n (j := 1) (q := 16) rfl rfl rfl rfl ?_
  exact ar_iret rfl rfl h
theorem r_H_tell_0 {d : Nat} {R : am_R} {I : Nat → Nat → Int32} {L : Nat → Nat → Int64} {v : Int32} (h : am_meth d 25 [.ref 0, .ref 97, .int v] (am_mk I L, 0, 0) (am_ri (fun z_1 I_2 L_3 => R (some (.int z_1)) (am_mk I_2 L_3, 0, 0)))) : am_Run am_X0 (am_meth d) 33 R 0 [some (.ref 0), some (.int v)] [] (am_mk I L, 0, 0) := by
  refine ar_aload_n (j := 0) (q := 1) rfl rfl rfl rfl ?_
  refine ar_aload_n (j := 0) (q := 2) rfl rfl rfl rfl ?_
  refine ar_getf (v := .ref 97) (q := 5) rfl rfl mk_0 rfl rfl ?_
  refine ar_iload_n (j := 1) (q := 6) rfl rfl rfl rfl ?_
  refine ar_invv (as := [.ref 97, .int v]) (rest := []) (b2 := (0, 0)) (b3 := (0, 0)) (q := 9) rfl rfl rfl rfl mk_0 rfl rfl rfl rfl rfl ?_
  refine am_meth_mono d _ _ _ _ _ (fun v9 m9 h9 => ?_) h
  obtain ⟨z_1, I_2, L_3, rfl, rfl, h⟩ := h9
  show am_Run am_X0 (am_meth d) 33 R 9 [some (.ref 0), some (.int v)] [.int z_1] (am_mk I_2 L_3, 0, 0)
  exact ar_iret rfl rfl h
theorem r_H_wish_0 {d : Nat} {R : am_R} {I : Nat → Nat → Int32} {L : Nat → Nat → Int64} {k : Int32} {l : Int32} {v : Int32} (h : am_meth d 54 [.ref 16, .int k] (am_mk I L, 0, 0) (am_ri (fun z_1 I_2 L_3 => ((z_1 = 0 → (am_meth d 2 [.ref 0, .int (-1 : Int32)] (am_mk I_2 L_3, 0, 0) (am_ri (fun z_5 I_6 L_7 => R (some (.int z_5)) (am_mk I_6 L_7, 0, 0))))) ∧ (¬ (z_1 = 0) → (am_meth d 147 [.ref 2, .int l] (am_mk I_2 L_3, 0, 0) (am_ri (fun z_8 I_9 L_10 => ((¬ z_8 = 0 → (am_meth d 5 [.int v, .int 0, .int 99] (am_mk I_9 L_10, 0, 0) (am_ri (fun z_12 I_13 L_14 => ((z_12 = 0 → (∃ j_16 : Nat, j_16 < 20 ∧ k = nI j_16 ∧ (∃ j_19 : Nat, j_19 < 5 ∧ l = nI j_19 ∧ (∃ j_22 : Nat, j_22 < 20 ∧ k = nI j_22 ∧ (∃ j_25 : Nat, j_25 < 5 ∧ l = nI j_25 ∧ (∀ I_28 : Nat → Nat → Int32, I_28 = va_up I_13 (22 + j_22) (upd (I_13 (22 + j_22)) j_25 v) → (R (some (.int (I_13 (22 + j_16) j_19))) (am_mk I_28 L_14, 0, 0)))))))) ∧ (¬ (z_12 = 0) → (am_meth d 2 [.ref 0, .int z_12] (am_mk I_13 L_14, 0, 0) (am_ri (fun z_30 I_31 L_32 => R (some (.int z_30)) (am_mk I_31 L_32, 0, 0)))))))))) ∧ (¬ (¬ z_8 = 0) → (am_meth d 2 [.ref 0, .int (-1 : Int32)] (am_mk I_9 L_10, 0, 0) (am_ri (fun z_33 I_34 L_35 => R (some (.int z_33)) (am_mk I_34 L_35, 0, 0)))))))))))))) : am_Run am_X0 (am_meth d) 30 R 0 [some (.ref 0), some (.int k), some (.int l), some (.int v), none, none] [] (am_mk I L, 0, 0) := by
  refine ar_aload_n (j := 0) (q := 1) rfl rfl rfl rfl ?_
  refine ar_getf (v := .ref 16) (q := 4) rfl rfl mk_0 rfl rfl ?_
  refine ar_iload_n (j := 1) (q := 5) rfl rfl rfl rfl ?_
  refine ar_invv (as := [.int k]) (rest := []) (b2 := (0, 0)) (b3 := (0, 0)) (q := 8) rfl rfl rfl rfl mk_16 rfl rfl rfl rfl rfl ?_
  refine am_meth_mono d _ _ _ _ _ (fun v9 m9 h9 => ?_) h
  obtain ⟨z_1, I_2, L_3, rfl, rfl, h⟩ := h9
  show am_Run am_X0 (am_meth d) 30 R 8 [some (.ref 0), some (.int k), some (.int l), some (.int v), none, none] [.int z_1] (am_mk I_2 L_3, 0, 0)
  obtain ⟨hA, hB⟩ := h
  refine ar_b0 am_c_eq (t := 22) (q := 11) rfl rfl rfl (fun c_4 => ?_) (fun c_4 => ?_)
  · have h := hA c_4
    clear hA hB
    refine ar_aload_n (j := 0) (q := 23) rfl rfl rfl rfl ?_
    refine ar_iconst (v := (-1 : Int32)) (q := 24) rfl rfl rfl ?_
    refine ar_invv (as := [.int (-1 : Int32)]) (rest := []) (b2 := (0, 0)) (b3 := (0, 0)) (q := 27) rfl rfl rfl rfl mk_0 rfl rfl rfl rfl rfl ?_
    refine am_meth_mono d _ _ _ _ _ (fun v9 m9 h9 => ?_) h
    obtain ⟨z_5, I_6, L_7, rfl, rfl, h⟩ := h9
    show am_Run am_X0 (am_meth d) 30 R 27 [some (.ref 0), some (.int k), some (.int l), some (.int v), none, none] [.int z_5] (am_mk I_6 L_7, 0, 0)
    exact ar_iret rfl rfl h
  · have h := hB c_4
    clear hA hB
    refine ar_aload_n (j := 0) (q := 12) rfl rfl rfl rfl ?_
    refine ar_getf (v := .ref 2) (q := 15) rfl rfl mk_0 rfl rfl ?_
    refine ar_iload_n (j := 2) (q := 16) rfl rfl rfl rfl ?_
    refine ar_invv (as := [.int l]) (rest := []) (b2 := (0, 0)) (b3 := (0, 0)) (q := 19) rfl rfl rfl rfl mk_2 rfl rfl rfl rfl rfl ?_
    refine am_meth_mono d _ _ _ _ _ (fun v9 m9 h9 => ?_) h
    obtain ⟨z_8, I_9, L_10, rfl, rfl, h⟩ := h9
    show am_Run am_X0 (am_meth d) 30 R 19 [some (.ref 0), some (.int k), some (.int l), some (.int v), none, none] [.int z_8] (am_mk I_9 L_10, 0, 0)
    obtain ⟨hA, hB⟩ := h
    refine ar_b0 am_c_ne (t := 28) (q := 22) rfl rfl rfl (fun c_11 => ?_) (fun c_11 => ?_)
    · have h := hA c_11
      clear hA hB
      refine ar_iload_n (j := 3) (q := 29) rfl rfl rfl rfl ?_
      refine ar_iconst (v := 0) (q := 30) rfl rfl rfl ?_
      refine ar_bipush (v := 99) (q := 32) rfl rfl rfl ?_
      refine ar_invs (as := [.int v, .int 0, .int 99]) (rest := []) (b2 := (0, 0)) (b3 := (0, 0)) (q := 35) rfl rfl rfl rfl rfl rfl rfl rfl rfl ?_
      refine am_meth_mono d _ _ _ _ _ (fun v9 m9 h9 => ?_) h
      obtain ⟨z_12, I_13, L_14, rfl, rfl, h⟩ := h9
      show am_Run am_X0 (am_meth d) 30 R 35 [some (.ref 0), some (.int k), some (.int l), some (.int v), none, none] [.int z_12] (am_mk I_13 L_14, 0, 0)
      refine ar_istore (ls' := [some (.ref 0), some (.int k), some (.int l), some (.int v), some (.int z_12), none]) (q := 37) rfl rfl rfl rfl ?_
      refine ar_iload (q := 39) rfl rfl rfl ?_
      obtain ⟨hA, hB⟩ := h
      refine ar_b0 am_c_eq (t := 49) (q := 42) rfl rfl rfl (fun c_15 => ?_) (fun c_15 => ?_)
      · have h := hA c_15
        clear hA hB
        refine ar_aload_n (j := 0) (q := 50) rfl rfl rfl rfl ?_
        refine ar_getf (v := .ref 16) (q := 53) rfl rfl mk_0 rfl rfl ?_
        refine ar_getf (v := .ref 21) (q := 56) rfl rfl mk_16 rfl rfl ?_
        refine ar_iload_n (j := 1) (q := 57) rfl rfl rfl rfl ?_
        obtain ⟨j_16, hx_17, hi_18, h⟩ := h
        refine ar_aald (c2 := 22 + j_16) (q := 58) rfl mk_21 (am_inE hi_18 hx_17 (by decide)) (congrArg (fun z => some (22 + z)) (am_clT hi_18 hx_17 (by decide))) rfl ?_
        refine ar_iload_n (j := 2) (q := 59) rfl rfl rfl rfl ?_
        obtain ⟨j_19, hx_20, hi_21, h⟩ := h
        refine ar_iald (v := I_13 (22 + j_16) j_19) (q := 60) rfl (mk_g21 hx_17) (am_inE hi_21 hx_20 (by decide)) (am_clE hi_21 hx_20 (by decide)) rfl ?_
        refine ar_istore (ls' := [some (.ref 0), some (.int k), some (.int l), some (.int v), some (.int z_12), some (.int (I_13 (22 + j_16) j_19))]) (q := 62) rfl rfl rfl rfl ?_
        refine ar_aload_n (j := 0) (q := 63) rfl rfl rfl rfl ?_
        refine ar_getf (v := .ref 16) (q := 66) rfl rfl mk_0 rfl rfl ?_
        refine ar_getf (v := .ref 21) (q := 69) rfl rfl mk_16 rfl rfl ?_
        refine ar_iload_n (j := 1) (q := 70) rfl rfl rfl rfl ?_
        obtain ⟨j_22, hx_23, hi_24, h⟩ := h
        refine ar_aald (c2 := 22 + j_22) (q := 71) rfl mk_21 (am_inE hi_24 hx_23 (by decide)) (congrArg (fun z => some (22 + z)) (am_clT hi_24 hx_23 (by decide))) rfl ?_
        refine ar_iload_n (j := 2) (q := 72) rfl rfl rfl rfl ?_
        refine ar_iload_n (j := 3) (q := 73) rfl rfl rfl rfl ?_
        obtain ⟨j_25, hx_26, hi_27, h⟩ := h
        obtain ⟨I_28, hI_29⟩ : ∃ z : Nat → Nat → Int32, z = va_up I_13 (22 + j_22) (upd (I_13 (22 + j_22)) j_25 v) := ⟨_, rfl⟩
        have h := h I_28 hI_29
        refine ar_iast (hp2 := am_mk I_28 L_14) (q := 74) rfl (mk_g21 hx_23) (am_inE hi_27 hx_26 (by decide)) (by rw [am_clT hi_27 hx_26 (by decide), hI_29]; exact (mk_gs21 hx_23)) rfl ?_
        refine ar_iload (q := 76) rfl rfl rfl ?_
        exact ar_iret rfl rfl h
      · have h := hB c_15
        clear hA hB
        refine ar_aload_n (j := 0) (q := 43) rfl rfl rfl rfl ?_
        refine ar_iload (q := 45) rfl rfl rfl ?_
        refine ar_invv (as := [.int z_12]) (rest := []) (b2 := (0, 0)) (b3 := (0, 0)) (q := 48) rfl rfl rfl rfl mk_0 rfl rfl rfl rfl rfl ?_
        refine am_meth_mono d _ _ _ _ _ (fun v9 m9 h9 => ?_) h
        obtain ⟨z_30, I_31, L_32, rfl, rfl, h⟩ := h9
        show am_Run am_X0 (am_meth d) 30 R 48 [some (.ref 0), some (.int k), some (.int l), some (.int v), some (.int z_12), none] [.int z_30] (am_mk I_31 L_32, 0, 0)
        exact ar_iret rfl rfl h
    · have h := hB c_11
      clear hA hB
      refine ar_aload_n (j := 0) (q := 23) rfl rfl rfl rfl ?_
      refine ar_iconst (v := (-1 : Int32)) (q := 24) rfl rfl rfl ?_
      refine ar_invv (as := [.int (-1 : Int32)]) (rest := []) (b2 := (0, 0)) (b3 := (0, 0)) (q := 27) rfl rfl rfl rfl mk_0 rfl rfl rfl rfl rfl ?_
      refine am_meth_mono d _ _ _ _ _ (fun v9 m9 h9 => ?_) h
      obtain ⟨z_33, I_34, L_35, rfl, rfl, h⟩ := h9
      show am_Run am_X0 (am_meth d) 30 R 27 [some (.ref 0), some (.int k), some (.int l), some (.int v), none, none] [.int z_33] (am_mk I_34 L_35, 0, 0)
      exact ar_iret rfl rfl h
theorem r_H_look_0 {d : Nat} {R : am_R} {I : Nat → Nat → Int32} {L : Nat → Nat → Int64} {a : Int32} {b : Int32} {v : Int32} (h : am_meth d 50 [.ref 42, .int a] (am_mk I L, 0, 0) (am_ri (fun z_1 I_2 L_3 => ((¬ z_1 = 0 → (((b < 0 → (am_meth d 2 [.ref 0, .int (-4 : Int32)] (am_mk I_2 L_3, 0, 0) (am_ri (fun z_6 I_7 L_8 => R (some (.int z_6)) (am_mk I_7 L_8, 0, 0))))) ∧ (¬ (b < 0) → (((0 ≤ v → (((31 ≤ b → (am_meth d 2 [.ref 0, .int (-6 : Int32)] (am_mk I_2 L_3, 0, 0) (am_ri (fun z_11 I_12 L_13 => R (some (.int z_11)) (am_mk I_12 L_13, 0, 0))))) ∧ (¬ (31 ≤ b) → (((v ≤ 9 → (∃ j_15 : Nat, j_15 < 20 ∧ a = nI j_15 ∧ (∃ j_18 : Nat, j_18 < 31 ∧ b = nI j_18 ∧ (∃ j_21 : Nat, j_21 < 20 ∧ a = nI j_21 ∧ (∃ j_24 : Nat, j_24 < 31 ∧ b = nI j_24 ∧ (∀ I_27 : Nat → Nat → Int32, I_27 = va_up I_2 (46 + j_21) (upd (I_2 (46 + j_21)) j_24 v) → (R (some (.int (I_2 (46 + j_15) j_18))) (am_mk I_27 L_3, 0, 0)))))))) ∧ (¬ (v ≤ 9) → (am_meth d 2 [.ref 0, .int (-6 : Int32)] (am_mk I_2 L_3, 0, 0) (am_ri (fun z_29 I_30 L_31 => R (some (.int z_29)) (am_mk I_30 L_31, 0, 0))))))))))) ∧ (¬ (0 ≤ v) → (am_meth d 2 [.ref 0, .int (-4 : Int32)] (am_mk I_2 L_3, 0, 0) (am_ri (fun z_32 I_33 L_34 => R (some (.int z_32)) (am_mk I_33 L_34, 0, 0))))))))))) ∧ (¬ (¬ z_1 = 0) → (am_meth d 2 [.ref 0, .int (-1 : Int32)] (am_mk I_2 L_3, 0, 0) (am_ri (fun z_35 I_36 L_37 => R (some (.int z_35)) (am_mk I_36 L_37, 0, 0))))))))) : am_Run am_X0 (am_meth d) 39 R 0 [some (.ref 0), some (.int a), some (.int b), some (.int v), none] [] (am_mk I L, 0, 0) := by
  refine ar_aload_n (j := 0) (q := 1) rfl rfl rfl rfl ?_
  refine ar_getf (v := .ref 42) (q := 4) rfl rfl mk_0 rfl rfl ?_
  refine ar_iload_n (j := 1) (q := 5) rfl rfl rfl rfl ?_
  refine ar_invv (as := [.int a]) (rest := []) (b2 := (0, 0)) (b3 := (0, 0)) (q := 8) rfl rfl rfl rfl mk_42 rfl rfl rfl rfl rfl ?_
  refine am_meth_mono d _ _ _ _ _ (fun v9 m9 h9 => ?_) h
  obtain ⟨z_1, I_2, L_3, rfl, rfl, h⟩ := h9
  show am_Run am_X0 (am_meth d) 39 R 8 [some (.ref 0), some (.int a), some (.int b), some (.int v), none] [.int z_1] (am_mk I_2 L_3, 0, 0)
  obtain ⟨hA, hB⟩ := h
  refine ar_b0 am_c_ne (t := 17) (q := 11) rfl rfl rfl (fun c_4 => ?_) (fun c_4 => ?_)
  · have h := hA c_4
    clear hA hB
    refine ar_iload_n (j := 2) (q := 18) rfl rfl rfl rfl ?_
    obtain ⟨hA, hB⟩ := h
    refine ar_b0 am_c_lt (t := 25) (q := 21) rfl rfl rfl (fun c_5 => ?_) (fun c_5 => ?_)
    · have h := hA c_5
      clear hA hB
      refine ar_aload_n (j := 0) (q := 26) rfl rfl rfl rfl ?_
      refine ar_bipush (v := (-4 : Int32)) (q := 28) rfl rfl rfl ?_
      refine ar_invv (as := [.int (-4 : Int32)]) (rest := []) (b2 := (0, 0)) (b3 := (0, 0)) (q := 31) rfl rfl rfl rfl mk_0 rfl rfl rfl rfl rfl ?_
      refine am_meth_mono d _ _ _ _ _ (fun v9 m9 h9 => ?_) h
      obtain ⟨z_6, I_7, L_8, rfl, rfl, h⟩ := h9
      show am_Run am_X0 (am_meth d) 39 R 31 [some (.ref 0), some (.int a), some (.int b), some (.int v), none] [.int z_6] (am_mk I_7 L_8, 0, 0)
      exact ar_iret rfl rfl h
    · have h := hB c_5
      clear hA hB
      refine ar_iload_n (j := 3) (q := 22) rfl rfl rfl rfl ?_
      obtain ⟨hA, hB⟩ := h
      refine ar_b0 am_c_ge (t := 32) (q := 25) rfl rfl rfl (fun c_9 => ?_) (fun c_9 => ?_)
      · have h := hA c_9
        clear hA hB
        refine ar_iload_n (j := 2) (q := 33) rfl rfl rfl rfl ?_
        refine ar_bipush (v := 31) (q := 35) rfl rfl rfl ?_
        obtain ⟨hA, hB⟩ := h
        refine ar_br am_c_ge (t := 44) (q := 38) rfl rfl rfl (fun c_10 => ?_) (fun c_10 => ?_)
        · have h := hA c_10
          clear hA hB
          refine ar_aload_n (j := 0) (q := 45) rfl rfl rfl rfl ?_
          refine ar_bipush (v := (-6 : Int32)) (q := 47) rfl rfl rfl ?_
          refine ar_invv (as := [.int (-6 : Int32)]) (rest := []) (b2 := (0, 0)) (b3 := (0, 0)) (q := 50) rfl rfl rfl rfl mk_0 rfl rfl rfl rfl rfl ?_
          refine am_meth_mono d _ _ _ _ _ (fun v9 m9 h9 => ?_) h
          obtain ⟨z_11, I_12, L_13, rfl, rfl, h⟩ := h9
          show am_Run am_X0 (am_meth d) 39 R 50 [some (.ref 0), some (.int a), some (.int b), some (.int v), none] [.int z_11] (am_mk I_12 L_13, 0, 0)
          exact ar_iret rfl rfl h
        · have h := hB c_10
          clear hA hB
          refine ar_iload_n (j := 3) (q := 39) rfl rfl rfl rfl ?_
          refine ar_bipush (v := 9) (q := 41) rfl rfl rfl ?_
          obtain ⟨hA, hB⟩ := h
          refine ar_br am_c_le (t := 51) (q := 44) rfl rfl rfl (fun c_14 => ?_) (fun c_14 => ?_)
          · have h := hA c_14
            clear hA hB
            refine ar_aload_n (j := 0) (q := 52) rfl rfl rfl rfl ?_
            refine ar_getf (v := .ref 42) (q := 55) rfl rfl mk_0 rfl rfl ?_
            refine ar_getf (v := .ref 45) (q := 58) rfl rfl mk_42 rfl rfl ?_
            refine ar_iload_n (j := 1) (q := 59) rfl rfl rfl rfl ?_
            obtain ⟨j_15, hx_16, hi_17, h⟩ := h
            refine ar_aald (c2 := 46 + j_15) (q := 60) rfl mk_45 (am_inE hi_17 hx_16 (by decide)) (congrArg (fun z => some (46 + z)) (am_clT hi_17 hx_16 (by decide))) rfl ?_
            refine ar_iload_n (j := 2) (q := 61) rfl rfl rfl rfl ?_
            obtain ⟨j_18, hx_19, hi_20, h⟩ := h
            refine ar_iald (v := I_2 (46 + j_15) j_18) (q := 62) rfl (mk_g45 hx_16) (am_inE hi_20 hx_19 (by decide)) (am_clE hi_20 hx_19 (by decide)) rfl ?_
            refine ar_istore (ls' := [some (.ref 0), some (.int a), some (.int b), some (.int v), some (.int (I_2 (46 + j_15) j_18))]) (q := 64) rfl rfl rfl rfl ?_
            refine ar_aload_n (j := 0) (q := 65) rfl rfl rfl rfl ?_
            refine ar_getf (v := .ref 42) (q := 68) rfl rfl mk_0 rfl rfl ?_
            refine ar_getf (v := .ref 45) (q := 71) rfl rfl mk_42 rfl rfl ?_
            refine ar_iload_n (j := 1) (q := 72) rfl rfl rfl rfl ?_
            obtain ⟨j_21, hx_22, hi_23, h⟩ := h
            refine ar_aald (c2 := 46 + j_21) (q := 73) rfl mk_45 (am_inE hi_23 hx_22 (by decide)) (congrArg (fun z => some (46 + z)) (am_clT hi_23 hx_22 (by decide))) rfl ?_
            refine ar_iload_n (j := 2) (q := 74) rfl rfl rfl rfl ?_
            refine ar_iload_n (j := 3) (q := 75) rfl rfl rfl rfl ?_
            obtain ⟨j_24, hx_25, hi_26, h⟩ := h
            obtain ⟨I_27, hI_28⟩ : ∃ z : Nat → Nat → Int32, z = va_up I_2 (46 + j_21) (upd (I_2 (46 + j_21)) j_24 v) := ⟨_, rfl⟩
            have h := h I_27 hI_28
            refine ar_iast (hp2 := am_mk I_27 L_3) (q := 76) rfl (mk_g45 hx_22) (am_inE hi_26 hx_25 (by decide)) (by rw [am_clT hi_26 hx_25 (by decide), hI_28]; exact (mk_gs45 hx_22)) rfl ?_
            refine ar_iload (q := 78) rfl rfl rfl ?_
            exact ar_iret rfl rfl h
          · have h := hB c_14
            clear hA hB
            refine ar_aload_n (j := 0) (q := 45) rfl rfl rfl rfl ?_
            refine ar_bipush (v := (-6 : Int32)) (q := 47) rfl rfl rfl ?_
            refine ar_invv (as := [.int (-6 : Int32)]) (rest := []) (b2 := (0, 0)) (b3 := (0, 0)) (q := 50) rfl rfl rfl rfl mk_0 rfl rfl rfl rfl rfl ?_
            refine am_meth_mono d _ _ _ _ _ (fun v9 m9 h9 => ?_) h
            obtain ⟨z_29, I_30, L_31, rfl, rfl, h⟩ := h9
            show am_Run am_X0 (am_meth d) 39 R 50 [some (.ref 0), some (.int a), some (.int b), some (.int v), none] [.int z_29] (am_mk I_30 L_31, 0, 0)
            exact ar_iret rfl rfl h
      · have h := hB c_9
        clear hA hB
        refine ar_aload_n (j := 0) (q := 26) rfl rfl rfl rfl ?_
        refine ar_bipush (v := (-4 : Int32)) (q := 28) rfl rfl rfl ?_
        refine ar_invv (as := [.int (-4 : Int32)]) (rest := []) (b2 := (0, 0)) (b3 := (0, 0)) (q := 31) rfl rfl rfl rfl mk_0 rfl rfl rfl rfl rfl ?_
        refine am_meth_mono d _ _ _ _ _ (fun v9 m9 h9 => ?_) h
        obtain ⟨z_32, I_33, L_34, rfl, rfl, h⟩ := h9
        show am_Run am_X0 (am_meth d) 39 R 31 [some (.ref 0), some (.int a), some (.int b), some (.int v), none] [.int z_32] (am_mk I_33 L_34, 0, 0)
        exact ar_iret rfl rfl h
  · have h := hB c_4
    clear hA hB
    refine ar_aload_n (j := 0) (q := 12) rfl rfl rfl rfl ?_
    refine ar_iconst (v := (-1 : Int32)) (q := 13) rfl rfl rfl ?_
    refine ar_invv (as := [.int (-1 : Int32)]) (rest := []) (b2 := (0, 0)) (b3 := (0, 0)) (q := 16) rfl rfl rfl rfl mk_0 rfl rfl rfl rfl rfl ?_
    refine am_meth_mono d _ _ _ _ _ (fun v9 m9 h9 => ?_) h
    obtain ⟨z_35, I_36, L_37, rfl, rfl, h⟩ := h9
    show am_Run am_X0 (am_meth d) 39 R 16 [some (.ref 0), some (.int a), some (.int b), some (.int v), none] [.int z_35] (am_mk I_36 L_37, 0, 0)
    exact ar_iret rfl rfl h
theorem r_H_gone_0 {d : Nat} {R : am_R} {I : Nat → Nat → Int32} {L : Nat → Nat → Int64} {s : Int32} (h : am_meth d 118 [.ref 66, .int s] (am_mk I L, 0, 0) (am_ri (fun z_1 I_2 L_3 => ((¬ z_1 = 0 → (am_meth d 122 [.ref 66, .int s] (am_mk I_2 L_3, 0, 0) (am_ri (fun z_5 I_6 L_7 => ((z_5 = 0 → (R (some (.int (-9 : Int32))) (am_mk I_6 L_7, 0, 0))) ∧ (¬ (z_5 = 0) → (am_meth d 123 [.ref 66, .int s] (am_mk I_6 L_7, 0, 0) (am_ri (fun z_9 I_10 L_11 => R (some (.int z_9)) (am_mk I_10 L_11, 0, 0)))))))))) ∧ (¬ (¬ z_1 = 0) → (am_meth d 2 [.ref 0, .int (-1 : Int32)] (am_mk I_2 L_3, 0, 0) (am_ri (fun z_12 I_13 L_14 => R (some (.int z_12)) (am_mk I_13 L_14, 0, 0))))))))) : am_Run am_X0 (am_meth d) 40 R 0 [some (.ref 0), some (.int s)] [] (am_mk I L, 0, 0) := by
  refine ar_aload_n (j := 0) (q := 1) rfl rfl rfl rfl ?_
  refine ar_getf (v := .ref 66) (q := 4) rfl rfl mk_0 rfl rfl ?_
  refine ar_iload_n (j := 1) (q := 5) rfl rfl rfl rfl ?_
  refine ar_invv (as := [.int s]) (rest := []) (b2 := (0, 0)) (b3 := (0, 0)) (q := 8) rfl rfl rfl rfl mk_66 rfl rfl rfl rfl rfl ?_
  refine am_meth_mono d _ _ _ _ _ (fun v9 m9 h9 => ?_) h
  obtain ⟨z_1, I_2, L_3, rfl, rfl, h⟩ := h9
  show am_Run am_X0 (am_meth d) 40 R 8 [some (.ref 0), some (.int s)] [.int z_1] (am_mk I_2 L_3, 0, 0)
  obtain ⟨hA, hB⟩ := h
  refine ar_b0 am_c_ne (t := 17) (q := 11) rfl rfl rfl (fun c_4 => ?_) (fun c_4 => ?_)
  · have h := hA c_4
    clear hA hB
    refine ar_aload_n (j := 0) (q := 18) rfl rfl rfl rfl ?_
    refine ar_getf (v := .ref 66) (q := 21) rfl rfl mk_0 rfl rfl ?_
    refine ar_iload_n (j := 1) (q := 22) rfl rfl rfl rfl ?_
    refine ar_invv (as := [.int s]) (rest := []) (b2 := (0, 0)) (b3 := (0, 0)) (q := 25) rfl rfl rfl rfl mk_66 rfl rfl rfl rfl rfl ?_
    refine am_meth_mono d _ _ _ _ _ (fun v9 m9 h9 => ?_) h
    obtain ⟨z_5, I_6, L_7, rfl, rfl, h⟩ := h9
    show am_Run am_X0 (am_meth d) 40 R 25 [some (.ref 0), some (.int s)] [.int z_5] (am_mk I_6 L_7, 0, 0)
    obtain ⟨hA, hB⟩ := h
    refine ar_b0 am_c_eq (t := 39) (q := 28) rfl rfl rfl (fun c_8 => ?_) (fun c_8 => ?_)
    · have h := hA c_8
      clear hA hB
      refine ar_bipush (v := (-9 : Int32)) (q := 41) rfl rfl rfl ?_
      exact ar_iret rfl rfl h
    · have h := hB c_8
      clear hA hB
      refine ar_aload_n (j := 0) (q := 29) rfl rfl rfl rfl ?_
      refine ar_getf (v := .ref 66) (q := 32) rfl rfl mk_0 rfl rfl ?_
      refine ar_iload_n (j := 1) (q := 33) rfl rfl rfl rfl ?_
      refine ar_invv (as := [.int s]) (rest := []) (b2 := (0, 0)) (b3 := (0, 0)) (q := 36) rfl rfl rfl rfl mk_66 rfl rfl rfl rfl rfl ?_
      refine am_meth_mono d _ _ _ _ _ (fun v9 m9 h9 => ?_) h
      obtain ⟨z_9, I_10, L_11, rfl, rfl, h⟩ := h9
      show am_Run am_X0 (am_meth d) 40 R 36 [some (.ref 0), some (.int s)] [.int z_9] (am_mk I_10 L_11, 0, 0)
      refine ar_goto (t := 41) rfl rfl ?_
      exact ar_iret rfl rfl h
  · have h := hB c_4
    clear hA hB
    refine ar_aload_n (j := 0) (q := 12) rfl rfl rfl rfl ?_
    refine ar_iconst (v := (-1 : Int32)) (q := 13) rfl rfl rfl ?_
    refine ar_invv (as := [.int (-1 : Int32)]) (rest := []) (b2 := (0, 0)) (b3 := (0, 0)) (q := 16) rfl rfl rfl rfl mk_0 rfl rfl rfl rfl rfl ?_
    refine am_meth_mono d _ _ _ _ _ (fun v9 m9 h9 => ?_) h
    obtain ⟨z_12, I_13, L_14, rfl, rfl, h⟩ := h9
    show am_Run am_X0 (am_meth d) 40 R 16 [some (.ref 0), some (.int s)] [.int z_12] (am_mk I_13 L_14, 0, 0)
    exact ar_iret rfl rfl h
theorem r_H_claim_0 {d : Nat} {R : am_R} {I : Nat → Nat → Int32} {L : Nat → Nat → Int64} {s : Int32} (h : am_meth d 118 [.ref 66, .int s] (am_mk I L, 0, 0) (am_ri (fun z_1 I_2 L_3 => ((¬ z_1 = 0 → (am_meth d 122 [.ref 66, .int s] (am_mk I_2 L_3, 0, 0) (am_ri (fun z_5 I_6 L_7 => ((¬ z_5 = 0 → (∃ j_9 : Nat, j_9 < 60 ∧ s = nI j_9 ∧ (am_meth d 123 [.ref 66, .int s] (am_mk I_6 L_7, 0, 0) (am_ri (fun z_12 I_13 L_14 => am_meth d 51 [.ref 42, .int (I_6 67 j_9), .int z_12] (am_mk I_13 L_14, 0, 0) (am_ri (fun z_15 I_16 L_17 => R (some (.int z_15)) (am_mk I_16 L_17, 0, 0)))))))) ∧ (¬ (¬ z_5 = 0) → (am_meth d 2 [.ref 0, .int (-3 : Int32)] (am_mk I_6 L_7, 0, 0) (am_ri (fun z_18 I_19 L_20 => R (some (.int z_18)) (am_mk I_19 L_20, 0, 0)))))))))) ∧ (¬ (¬ z_1 = 0) → (am_meth d 2 [.ref 0, .int (-1 : Int32)] (am_mk I_2 L_3, 0, 0) (am_ri (fun z_21 I_22 L_23 => R (some (.int z_21)) (am_mk I_22 L_23, 0, 0))))))))) : am_Run am_X0 (am_meth d) 41 R 0 [some (.ref 0), some (.int s)] [] (am_mk I L, 0, 0) := by
  refine ar_aload_n (j := 0) (q := 1) rfl rfl rfl rfl ?_
  refine ar_getf (v := .ref 66) (q := 4) rfl rfl mk_0 rfl rfl ?_
  refine ar_iload_n (j := 1) (q := 5) rfl rfl rfl rfl ?_
  refine ar_invv (as := [.int s]) (rest := []) (b2 := (0, 0)) (b3 := (0, 0)) (q := 8) rfl rfl rfl rfl mk_66 rfl rfl rfl rfl rfl ?_
  refine am_meth_mono d _ _ _ _ _ (fun v9 m9 h9 => ?_) h
  obtain ⟨z_1, I_2, L_3, rfl, rfl, h⟩ := h9
  show am_Run am_X0 (am_meth d) 41 R 8 [some (.ref 0), some (.int s)] [.int z_1] (am_mk I_2 L_3, 0, 0)
  obtain ⟨hA, hB⟩ := h
  refine ar_b0 am_c_ne (t := 17) (q := 11) rfl rfl rfl (fun c_4 => ?_) (fun c_4 => ?_)
  · have h := hA c_4
    clear hA hB
    refine ar_aload_n (j := 0) (q := 18) rfl rfl rfl rfl ?_
    refine ar_getf (v := .ref 66) (q := 21) rfl rfl mk_0 rfl rfl ?_
    refine ar_iload_n (j := 1) (q := 22) rfl rfl rfl rfl ?_
    refine ar_invv (as := [.int s]) (rest := []) (b2 := (0, 0)) (b3 := (0, 0)) (q := 25) rfl rfl rfl rfl mk_66 rfl rfl rfl rfl rfl ?_
    refine am_meth_mono d _ _ _ _ _ (fun v9 m9 h9 => ?_) h
    obtain ⟨z_5, I_6, L_7, rfl, rfl, h⟩ := h9
    show am_Run am_X0 (am_meth d) 41 R 25 [some (.ref 0), some (.int s)] [.int z_5] (am_mk I_6 L_7, 0, 0)
    obtain ⟨hA, hB⟩ := h
    refine ar_b0 am_c_ne (t := 35) (q := 28) rfl rfl rfl (fun c_8 => ?_) (fun c_8 => ?_)
    · have h := hA c_8
      clear hA hB
      refine ar_aload_n (j := 0) (q := 36) rfl rfl rfl rfl ?_
      refine ar_getf (v := .ref 42) (q := 39) rfl rfl mk_0 rfl rfl ?_
      refine ar_aload_n (j := 0) (q := 40) rfl rfl rfl rfl ?_
      refine ar_getf (v := .ref 66) (q := 43) rfl rfl mk_0 rfl rfl ?_
      refine ar_getf (v := .ref 67) (q := 46) rfl rfl mk_66 rfl rfl ?_
      refine ar_iload_n (j := 1) (q := 47) rfl rfl rfl rfl ?_
      obtain ⟨j_9, hx_10, hi_11, h⟩ := h
      refine ar_iald (v := I_6 67 j_9) (q := 48) rfl mk_67 (am_inE hi_11 hx_10 (by decide)) (am_clE hi_11 hx_10 (by decide)) rfl ?_
      refine ar_aload_n (j := 0) (q := 49) rfl rfl rfl rfl ?_
      refine ar_getf (v := .ref 66) (q := 52) rfl rfl mk_0 rfl rfl ?_
      refine ar_iload_n (j := 1) (q := 53) rfl rfl rfl rfl ?_
      refine ar_invv (as := [.int s]) (rest := [.int (I_6 67 j_9), .ref 42]) (b2 := (0, 0)) (b3 := (0, 0)) (q := 56) rfl rfl rfl rfl mk_66 rfl rfl rfl rfl rfl ?_
      refine am_meth_mono d _ _ _ _ _ (fun v9 m9 h9 => ?_) h
      obtain ⟨z_12, I_13, L_14, rfl, rfl, h⟩ := h9
      show am_Run am_X0 (am_meth d) 41 R 56 [some (.ref 0), some (.int s)] [.int z_12, .int (I_6 67 j_9), .ref 42] (am_mk I_13 L_14, 0, 0)
      refine ar_invv (as := [.int (I_6 67 j_9), .int z_12]) (rest := []) (b2 := (0, 0)) (b3 := (0, 0)) (q := 59) rfl rfl rfl rfl mk_42 rfl rfl rfl rfl rfl ?_
      refine am_meth_mono d _ _ _ _ _ (fun v9 m9 h9 => ?_) h
      obtain ⟨z_15, I_16, L_17, rfl, rfl, h⟩ := h9
      show am_Run am_X0 (am_meth d) 41 R 59 [some (.ref 0), some (.int s)] [.int z_15] (am_mk I_16 L_17, 0, 0)
      exact ar_iret rfl rfl h
    · have h := hB c_8
      clear hA hB
      refine ar_aload_n (j := 0) (q := 29) rfl rfl rfl rfl ?_
      refine ar_bipush (v := (-3 : Int32)) (q := 31) rfl rfl rfl ?_
      refine ar_invv (as := [.int (-3 : Int32)]) (rest := []) (b2 := (0, 0)) (b3 := (0, 0)) (q := 34) rfl rfl rfl rfl mk_0 rfl rfl rfl rfl rfl ?_
      refine am_meth_mono d _ _ _ _ _ (fun v9 m9 h9 => ?_) h
      obtain ⟨z_18, I_19, L_20, rfl, rfl, h⟩ := h9
      show am_Run am_X0 (am_meth d) 41 R 34 [some (.ref 0), some (.int s)] [.int z_18] (am_mk I_19 L_20, 0, 0)
      exact ar_iret rfl rfl h
  · have h := hB c_4
    clear hA hB
    refine ar_aload_n (j := 0) (q := 12) rfl rfl rfl rfl ?_
    refine ar_iconst (v := (-1 : Int32)) (q := 13) rfl rfl rfl ?_
    refine ar_invv (as := [.int (-1 : Int32)]) (rest := []) (b2 := (0, 0)) (b3 := (0, 0)) (q := 16) rfl rfl rfl rfl mk_0 rfl rfl rfl rfl rfl ?_
    refine am_meth_mono d _ _ _ _ _ (fun v9 m9 h9 => ?_) h
    obtain ⟨z_21, I_22, L_23, rfl, rfl, h⟩ := h9
    show am_Run am_X0 (am_meth d) 41 R 16 [some (.ref 0), some (.int s)] [.int z_21] (am_mk I_22 L_23, 0, 0)
    exact ar_iret rfl rfl h
theorem r_H_list_0 {d : Nat} {R : am_R} {I : Nat → Nat → Int32} {L : Nat → Nat → Int64} {s : Int32} {a : Int32} {x : Int32} (h : am_meth d 118 [.ref 66, .int s] (am_mk I L, 0, 0) (am_ri (fun z_1 I_2 L_3 => ((¬ z_1 = 0 → (((a = 0 → (∃ j_6 : Nat, j_6 < 60 ∧ s = nI j_6 ∧ ((((I_2 68 j_6) < (I_2 66 0) → (∃ j_10 : Nat, j_10 < 60 ∧ s = nI j_10 ∧ (((¬ (I_2 70 j_10) = 1 → (am_meth d 2 [.ref 0, .int (-3 : Int32)] (am_mk I_2 L_3, 0, 0) (am_ri (fun z_14 I_15 L_16 => R (some (.int z_14)) (am_mk I_15 L_16, 0, 0))))) ∧ (¬ (¬ (I_2 70 j_10) = 1) → (am_meth d 2 [.ref 0, .int (-3 : Int32)] (am_mk I_2 L_3, 0, 0) (am_ri (fun z_17 I_18 L_19 => R (some (.int z_17)) (am_mk I_18 L_19, 0, 0))))))))) ∧ (¬ ((I_2 68 j_6) < (I_2 66 0)) → (∃ j_20 : Nat, j_20 < 60 ∧ s = nI j_20 ∧ (((¬ (I_2 70 j_20) = 1 → (am_meth d 2 [.ref 0, .int (-3 : Int32)] (am_mk I_2 L_3, 0, 0) (am_ri (fun z_24 I_25 L_26 => R (some (.int z_24)) (am_mk I_25 L_26, 0, 0))))) ∧ (¬ (¬ (I_2 70 j_20) = 1) → (((0 ≤ x → (((a = 0 → (∃ j_29 : Nat, j_29 < 60 ∧ s = nI j_29 ∧ (((¬ (I_2 72 j_29) = (-1 : Int32) → (∃ j_33 : Nat, j_33 < 60 ∧ s = nI j_33 ∧ (∀ I_36 : Nat → Nat → Int32, I_36 = va_up I_2 72 (upd (I_2 72) j_33 x) → (R (some (.int 0)) (am_mk I_36 L_3, 0, 0))))) ∧ (¬ (¬ (I_2 72 j_29) = (-1 : Int32)) → (∃ j_38 : Nat, j_38 < 60 ∧ s = nI j_38 ∧ (∀ I_41 : Nat → Nat → Int32, I_41 = va_up I_2 72 (upd (I_2 72) j_38 x) → (R (some (.int 1)) (am_mk I_41 L_3, 0, 0))))))))) ∧ (¬ (a = 0) → (∃ j_43 : Nat, j_43 < 60 ∧ s = nI j_43 ∧ (((¬ (I_2 73 j_43) = (-1 : Int32) → (∃ j_47 : Nat, j_47 < 60 ∧ s = nI j_47 ∧ (∀ I_50 : Nat → Nat → Int32, I_50 = va_up I_2 73 (upd (I_2 73) j_47 x) → (R (some (.int 0)) (am_mk I_50 L_3, 0, 0))))) ∧ (¬ (¬ (I_2 73 j_43) = (-1 : Int32)) → (∃ j_52 : Nat, j_52 < 60 ∧ s = nI j_52 ∧ (∀ I_55 : Nat → Nat → Int32, I_55 = va_up I_2 73 (upd (I_2 73) j_52 x) → (R (some (.int 1)) (am_mk I_55 L_3, 0, 0)))))))))))) ∧ (¬ (0 ≤ x) → (am_meth d 2 [.ref 0, .int (-4 : Int32)] (am_mk I_2 L_3, 0, 0) (am_ri (fun z_57 I_58 L_59 => R (some (.int z_57)) (am_mk I_58 L_59, 0, 0)))))))))))))))) ∧ (¬ (a = 0) → (am_meth d 119 [.ref 66, .int s] (am_mk I_2 L_3, 0, 0) (am_ri (fun z_60 I_61 L_62 => ∃ j_63 : Nat, j_63 < 60 ∧ s = nI j_63 ∧ (((¬ (I_61 70 j_63) = 1 → (am_meth d 2 [.ref 0, .int (-3 : Int32)] (am_mk I_61 L_62, 0, 0) (am_ri (fun z_67 I_68 L_69 => R (some (.int z_67)) (am_mk I_68 L_69, 0, 0))))) ∧ (¬ (¬ (I_61 70 j_63) = 1) → (((¬ z_60 = 0 → (((0 ≤ x → (((a = 0 → (∃ j_73 : Nat, j_73 < 60 ∧ s = nI j_73 ∧ (((¬ (I_61 72 j_73) = (-1 : Int32) → (∃ j_77 : Nat, j_77 < 60 ∧ s = nI j_77 ∧ (∀ I_80 : Nat → Nat → Int32, I_80 = va_up I_61 72 (upd (I_61 72) j_77 x) → (R (some (.int 0)) (am_mk I_80 L_62, 0, 0))))) ∧ (¬ (¬ (I_61 72 j_73) = (-1 : Int32)) → (∃ j_82 : Nat, j_82 < 60 ∧ s = nI j_82 ∧ (∀ I_85 : Nat → Nat → Int32, I_85 = va_up I_61 72 (upd (I_61 72) j_82 x) → (R (some (.int 1)) (am_mk I_85 L_62, 0, 0))))))))) ∧ (¬ (a = 0) → (∃ j_87 : Nat, j_87 < 60 ∧ s = nI j_87 ∧ (((¬ (I_61 73 j_87) = (-1 : Int32) → (∃ j_91 : Nat, j_91 < 60 ∧ s = nI j_91 ∧ (∀ I_94 : Nat → Nat → Int32, I_94 = va_up I_61 73 (upd (I_61 73) j_91 x) → (R (some (.int 0)) (am_mk I_94 L_62, 0, 0))))) ∧ (¬ (¬ (I_61 73 j_87) = (-1 : Int32)) → (∃ j_96 : Nat, j_96 < 60 ∧ s = nI j_96 ∧ (∀ I_99 : Nat → Nat → Int32, I_99 = va_up I_61 73 (upd (I_61 73) j_96 x) → (R (some (.int 1)) (am_mk I_99 L_62, 0, 0)))))))))))) ∧ (¬ (0 ≤ x) → (am_meth d 2 [.ref 0, .int (-4 : Int32)] (am_mk I_61 L_62, 0, 0) (am_ri (fun z_101 I_102 L_103 => R (some (.int z_101)) (am_mk I_102 L_103, 0, 0)))))))) ∧ (¬ (¬ z_60 = 0) → (am_meth d 2 [.ref 0, .int (-3 : Int32)] (am_mk I_61 L_62, 0, 0) (am_ri (fun z_104 I_105 L_106 => R (some (.int z_104)) (am_mk I_105 L_106, 0, 0))))))))))))))))) ∧ (¬ (¬ z_1 = 0) → (am_meth d 2 [.ref 0, .int (-1 : Int32)] (am_mk I_2 L_3, 0, 0) (am_ri (fun z_107 I_108 L_109 => R (some (.int z_107)) (am_mk I_108 L_109, 0, 0))))))))) : am_Run am_X0 (am_meth d) 38 R 0 [some (.ref 0), some (.int s), some (.int a), some (.int x), none, none, none] [] (am_mk I L, 0, 0) := by
  refine ar_aload_n (j := 0) (q := 1) rfl rfl rfl rfl ?_
  refine ar_getf (v := .ref 66) (q := 4) rfl rfl mk_0 rfl rfl ?_
  refine ar_iload_n (j := 1) (q := 5) rfl rfl rfl rfl ?_
  refine ar_invv (as := [.int s]) (rest := []) (b2 := (0, 0)) (b3 := (0, 0)) (q := 8) rfl rfl rfl rfl mk_66 rfl rfl rfl rfl rfl ?_
  refine am_meth_mono d _ _ _ _ _ (fun v9 m9 h9 => ?_) h
  obtain ⟨z_1, I_2, L_3, rfl, rfl, h⟩ := h9
  show am_Run am_X0 (am_meth d) 38 R 8 [some (.ref 0), some (.int s), some (.int a), some (.int x), none, none, none] [.int z_1] (am_mk I_2 L_3, 0, 0)
  obtain ⟨hA, hB⟩ := h
  refine ar_b0 am_c_ne (t := 17) (q := 11) rfl rfl rfl (fun c_4 => ?_) (fun c_4 => ?_)
  · have h := hA c_4
    clear hA hB
    refine ar_iload_n (j := 2) (q := 18) rfl rfl rfl rfl ?_
    obtain ⟨hA, hB⟩ := h
    refine ar_b0 am_c_eq (t := 32) (q := 21) rfl rfl rfl (fun c_5 => ?_) (fun c_5 => ?_)
    · have h := hA c_5
      clear hA hB
      refine ar_aload_n (j := 0) (q := 33) rfl rfl rfl rfl ?_
      refine ar_getf (v := .ref 66) (q := 36) rfl rfl mk_0 rfl rfl ?_
      refine ar_getf (v := .int (I_2 66 0)) (q := 39) rfl rfl mk_66 rfl rfl ?_
      refine ar_aload_n (j := 0) (q := 40) rfl rfl rfl rfl ?_
      refine ar_getf (v := .ref 66) (q := 43) rfl rfl mk_0 rfl rfl ?_
      refine ar_getf (v := .ref 68) (q := 46) rfl rfl mk_66 rfl rfl ?_
      refine ar_iload_n (j := 1) (q := 47) rfl rfl rfl rfl ?_
      obtain ⟨j_6, hx_7, hi_8, h⟩ := h
      refine ar_iald (v := I_2 68 j_6) (q := 48) rfl mk_68 (am_inE hi_8 hx_7 (by decide)) (am_clE hi_8 hx_7 (by decide)) rfl ?_
      obtain ⟨hA, hB⟩ := h
      refine ar_br am_c_gt (t := 55) (q := 51) rfl rfl rfl (fun c_9 => ?_) (fun c_9 => ?_)
      · have h := hA c_9
        clear hA hB
        refine ar_iconst (v := 0) (q := 56) rfl rfl rfl ?_
        refine ar_istore (ls' := [some (.ref 0), some (.int s), some (.int a), some (.int x), some (.int 0), none, none]) (q := 58) rfl rfl rfl rfl ?_
        refine ar_aload_n (j := 0) (q := 59) rfl rfl rfl rfl ?_
        refine ar_getf (v := .ref 66) (q := 62) rfl rfl mk_0 rfl rfl ?_
        refine ar_getf (v := .ref 70) (q := 65) rfl rfl mk_66 rfl rfl ?_
        refine ar_iload_n (j := 1) (q := 66) rfl rfl rfl rfl ?_
        obtain ⟨j_10, hx_11, hi_12, h⟩ := h
        refine ar_iald (v := I_2 70 j_10) (q := 67) rfl mk_70 (am_inE hi_12 hx_11 (by decide)) (am_clE hi_12 hx_11 (by decide)) rfl ?_
        refine ar_iconst (v := 1) (q := 68) rfl rfl rfl ?_
        obtain ⟨hA, hB⟩ := h
        refine ar_br am_c_ne (t := 76) (q := 71) rfl rfl rfl (fun c_13 => ?_) (fun c_13 => ?_)
        · have h := hA c_13
          clear hA hB
          refine ar_aload_n (j := 0) (q := 77) rfl rfl rfl rfl ?_
          refine ar_bipush (v := (-3 : Int32)) (q := 79) rfl rfl rfl ?_
          refine ar_invv (as := [.int (-3 : Int32)]) (rest := []) (b2 := (0, 0)) (b3 := (0, 0)) (q := 82) rfl rfl rfl rfl mk_0 rfl rfl rfl rfl rfl ?_
          refine am_meth_mono d _ _ _ _ _ (fun v9 m9 h9 => ?_) h
          obtain ⟨z_14, I_15, L_16, rfl, rfl, h⟩ := h9
          show am_Run am_X0 (am_meth d) 38 R 82 [some (.ref 0), some (.int s), some (.int a), some (.int x), some (.int 0), none, none] [.int z_14] (am_mk I_15 L_16, 0, 0)
          exact ar_iret rfl rfl h
        · have h := hB c_13
          clear hA hB
          refine ar_iload (q := 73) rfl rfl rfl ?_
          refine ar_b0 am_c_ne (t := 83) (q := 76) rfl rfl rfl (fun c9 => absurd c9 (by decide)) (fun _ => ?_)
          refine ar_aload_n (j := 0) (q := 77) rfl rfl rfl rfl ?_
          refine ar_bipush (v := (-3 : Int32)) (q := 79) rfl rfl rfl ?_
          refine ar_invv (as := [.int (-3 : Int32)]) (rest := []) (b2 := (0, 0)) (b3 := (0, 0)) (q := 82) rfl rfl rfl rfl mk_0 rfl rfl rfl rfl rfl ?_
          refine am_meth_mono d _ _ _ _ _ (fun v9 m9 h9 => ?_) h
          obtain ⟨z_17, I_18, L_19, rfl, rfl, h⟩ := h9
          show am_Run am_X0 (am_meth d) 38 R 82 [some (.ref 0), some (.int s), some (.int a), some (.int x), some (.int 0), none, none] [.int z_17] (am_mk I_18 L_19, 0, 0)
          exact ar_iret rfl rfl h
      · have h := hB c_9
        clear hA hB
        refine ar_iconst (v := 1) (q := 52) rfl rfl rfl ?_
        refine ar_goto (t := 56) rfl rfl ?_
        refine ar_istore (ls' := [some (.ref 0), some (.int s), some (.int a), some (.int x), some (.int 1), none, none]) (q := 58) rfl rfl rfl rfl ?_
        refine ar_aload_n (j := 0) (q := 59) rfl rfl rfl rfl ?_
        refine ar_getf (v := .ref 66) (q := 62) rfl rfl mk_0 rfl rfl ?_
        refine ar_getf (v := .ref 70) (q := 65) rfl rfl mk_66 rfl rfl ?_
        refine ar_iload_n (j := 1) (q := 66) rfl rfl rfl rfl ?_
        obtain ⟨j_20, hx_21, hi_22, h⟩ := h
        refine ar_iald (v := I_2 70 j_20) (q := 67) rfl mk_70 (am_inE hi_22 hx_21 (by decide)) (am_clE hi_22 hx_21 (by decide)) rfl ?_
        refine ar_iconst (v := 1) (q := 68) rfl rfl rfl ?_
        obtain ⟨hA, hB⟩ := h
        refine ar_br am_c_ne (t := 76) (q := 71) rfl rfl rfl (fun c_23 => ?_) (fun c_23 => ?_)
        · have h := hA c_23
          clear hA hB
          refine ar_aload_n (j := 0) (q := 77) rfl rfl rfl rfl ?_
          refine ar_bipush (v := (-3 : Int32)) (q := 79) rfl rfl rfl ?_
          refine ar_invv (as := [.int (-3 : Int32)]) (rest := []) (b2 := (0, 0)) (b3 := (0, 0)) (q := 82) rfl rfl rfl rfl mk_0 rfl rfl rfl rfl rfl ?_
          refine am_meth_mono d _ _ _ _ _ (fun v9 m9 h9 => ?_) h
          obtain ⟨z_24, I_25, L_26, rfl, rfl, h⟩ := h9
          show am_Run am_X0 (am_meth d) 38 R 82 [some (.ref 0), some (.int s), some (.int a), some (.int x), some (.int 1), none, none] [.int z_24] (am_mk I_25 L_26, 0, 0)
          exact ar_iret rfl rfl h
        · have h := hB c_23
          clear hA hB
          refine ar_iload (q := 73) rfl rfl rfl ?_
          refine ar_b0 am_c_ne (t := 83) (q := 76) rfl rfl rfl (fun _ => ?_) (fun c9 => absurd (by decide) c9)
          refine ar_iload_n (j := 3) (q := 84) rfl rfl rfl rfl ?_
          obtain ⟨hA, hB⟩ := h
          refine ar_b0 am_c_ge (t := 94) (q := 87) rfl rfl rfl (fun c_27 => ?_) (fun c_27 => ?_)
          · have h := hA c_27
            clear hA hB
            refine ar_iload_n (j := 2) (q := 95) rfl rfl rfl rfl ?_
            obtain ⟨hA, hB⟩ := h
            refine ar_b0 am_c_eq (t := 108) (q := 98) rfl rfl rfl (fun c_28 => ?_) (fun c_28 => ?_)
            · have h := hA c_28
              clear hA hB
              refine ar_aload_n (j := 0) (q := 109) rfl rfl rfl rfl ?_
              refine ar_getf (v := .ref 66) (q := 112) rfl rfl mk_0 rfl rfl ?_
              refine ar_getf (v := .ref 72) (q := 115) rfl rfl mk_66 rfl rfl ?_
              refine ar_astore (ls' := [some (.ref 0), some (.int s), some (.int a), some (.int x), some (.int 1), some (.ref 72), none]) (q := 117) rfl rfl rfl rfl ?_
              refine ar_aload (q := 119) rfl rfl rfl ?_
              refine ar_iload_n (j := 1) (q := 120) rfl rfl rfl rfl ?_
              obtain ⟨j_29, hx_30, hi_31, h⟩ := h
              refine ar_iald (v := I_2 72 j_29) (q := 121) rfl mk_72 (am_inE hi_31 hx_30 (by decide)) (am_clE hi_31 hx_30 (by decide)) rfl ?_
              refine ar_iconst (v := (-1 : Int32)) (q := 122) rfl rfl rfl ?_
              obtain ⟨hA, hB⟩ := h
              refine ar_br am_c_ne (t := 129) (q := 125) rfl rfl rfl (fun c_32 => ?_) (fun c_32 => ?_)
              · have h := hA c_32
                clear hA hB
                refine ar_iconst (v := 0) (q := 130) rfl rfl rfl ?_
                refine ar_istore (ls' := [some (.ref 0), some (.int s), some (.int a), some (.int x), some (.int 1), some (.ref 72), some (.int 0)]) (q := 132) rfl rfl rfl rfl ?_
                refine ar_aload (q := 134) rfl rfl rfl ?_
                refine ar_iload_n (j := 1) (q := 135) rfl rfl rfl rfl ?_
                refine ar_iload_n (j := 3) (q := 136) rfl rfl rfl rfl ?_
                obtain ⟨j_33, hx_34, hi_35, h⟩ := h
                obtain ⟨I_36, hI_37⟩ : ∃ z : Nat → Nat → Int32, z = va_up I_2 72 (upd (I_2 72) j_33 x) := ⟨_, rfl⟩
                have h := h I_36 hI_37
                refine ar_iast (hp2 := am_mk I_36 L_3) (q := 137) rfl mk_72 (am_inE hi_35 hx_34 (by decide)) (by rw [am_clT hi_35 hx_34 (by decide), hI_37]; exact mk_s72) rfl ?_
                refine ar_iload (q := 139) rfl rfl rfl ?_
                exact ar_iret rfl rfl h
              · have h := hB c_32
                clear hA hB
                refine ar_iconst (v := 1) (q := 126) rfl rfl rfl ?_
                refine ar_goto (t := 130) rfl rfl ?_
                refine ar_istore (ls' := [some (.ref 0), some (.int s), some (.int a), some (.int x), some (.int 1), some (.ref 72), some (.int 1)]) (q := 132) rfl rfl rfl rfl ?_
                refine ar_aload (q := 134) rfl rfl rfl ?_
                refine ar_iload_n (j := 1) (q := 135) rfl rfl rfl rfl ?_
                refine ar_iload_n (j := 3) (q := 136) rfl rfl rfl rfl ?_
                obtain ⟨j_38, hx_39, hi_40, h⟩ := h
                obtain ⟨I_41, hI_42⟩ : ∃ z : Nat → Nat → Int32, z = va_up I_2 72 (upd (I_2 72) j_38 x) := ⟨_, rfl⟩
                have h := h I_41 hI_42
                refine ar_iast (hp2 := am_mk I_41 L_3) (q := 137) rfl mk_72 (am_inE hi_40 hx_39 (by decide)) (by rw [am_clT hi_40 hx_39 (by decide), hI_42]; exact mk_s72) rfl ?_
                refine ar_iload (q := 139) rfl rfl rfl ?_
                exact ar_iret rfl rfl h
            · have h := hB c_28
              clear hA hB
              refine ar_aload_n (j := 0) (q := 99) rfl rfl rfl rfl ?_
              refine ar_getf (v := .ref 66) (q := 102) rfl rfl mk_0 rfl rfl ?_
              refine ar_getf (v := .ref 73) (q := 105) rfl rfl mk_66 rfl rfl ?_
              refine ar_goto (t := 115) rfl rfl ?_
              refine ar_astore (ls' := [some (.ref 0), some (.int s), some (.int a), some (.int x), some (.int 1), some (.ref 73), none]) (q := 117) rfl rfl rfl rfl ?_
              refine ar_aload (q := 119) rfl rfl rfl ?_
              refine ar_iload_n (j := 1) (q := 120) rfl rfl rfl rfl ?_
              obtain ⟨j_43, hx_44, hi_45, h⟩ := h
              refine ar_iald (v := I_2 73 j_43) (q := 121) rfl mk_73 (am_inE hi_45 hx_44 (by decide)) (am_clE hi_45 hx_44 (by decide)) rfl ?_
              refine ar_iconst (v := (-1 : Int32)) (q := 122) rfl rfl rfl ?_
              obtain ⟨hA, hB⟩ := h
              refine ar_br am_c_ne (t := 129) (q := 125) rfl rfl rfl (fun c_46 => ?_) (fun c_46 => ?_)
              · have h := hA c_46
                clear hA hB
                refine ar_iconst (v := 0) (q := 130) rfl rfl rfl ?_
                refine ar_istore (ls' := [some (.ref 0), some (.int s), some (.int a), some (.int x), some (.int 1), some (.ref 73), some (.int 0)]) (q := 132) rfl rfl rfl rfl ?_
                refine ar_aload (q := 134) rfl rfl rfl ?_
                refine ar_iload_n (j := 1) (q := 135) rfl rfl rfl rfl ?_
                refine ar_iload_n (j := 3) (q := 136) rfl rfl rfl rfl ?_
                obtain ⟨j_47, hx_48, hi_49, h⟩ := h
                obtain ⟨I_50, hI_51⟩ : ∃ z : Nat → Nat → Int32, z = va_up I_2 73 (upd (I_2 73) j_47 x) := ⟨_, rfl⟩
                have h := h I_50 hI_51
                refine ar_iast (hp2 := am_mk I_50 L_3) (q := 137) rfl mk_73 (am_inE hi_49 hx_48 (by decide)) (by rw [am_clT hi_49 hx_48 (by decide), hI_51]; exact mk_s73) rfl ?_
                refine ar_iload (q := 139) rfl rfl rfl ?_
                exact ar_iret rfl rfl h
              · have h := hB c_46
                clear hA hB
                refine ar_iconst (v := 1) (q := 126) rfl rfl rfl ?_
                refine ar_goto (t := 130) rfl rfl ?_
                refine ar_istore (ls' := [some (.ref 0), some (.int s), some (.int a), some (.int x), some (.int 1), some (.ref 73), some (.int 1)]) (q := 132) rfl rfl rfl rfl ?_
                refine ar_aload (q := 134) rfl rfl rfl ?_
                refine ar_iload_n (j := 1) (q := 135) rfl rfl rfl rfl ?_
                refine ar_iload_n (j := 3) (q := 136) rfl rfl rfl rfl ?_
                obtain ⟨j_52, hx_53, hi_54, h⟩ := h
                obtain ⟨I_55, hI_56⟩ : ∃ z : Nat → Nat → Int32, z = va_up I_2 73 (upd (I_2 73) j_52 x) := ⟨_, rfl⟩
                have h := h I_55 hI_56
                refine ar_iast (hp2 := am_mk I_55 L_3) (q := 137) rfl mk_73 (am_inE hi_54 hx_53 (by decide)) (by rw [am_clT hi_54 hx_53 (by decide), hI_56]; exact mk_s73) rfl ?_
                refine ar_iload (q := 139) rfl rfl rfl ?_
                exact ar_iret rfl rfl h
          · have h := hB c_27
            clear hA hB
            refine ar_aload_n (j := 0) (q := 88) rfl rfl rfl rfl ?_
            refine ar_bipush (v := (-4 : Int32)) (q := 90) rfl rfl rfl ?_
            refine ar_invv (as := [.int (-4 : Int32)]) (rest := []) (b2 := (0, 0)) (b3 := (0, 0)) (q := 93) rfl rfl rfl rfl mk_0 rfl rfl rfl rfl rfl ?_
            refine am_meth_mono d _ _ _ _ _ (fun v9 m9 h9 => ?_) h
            obtain ⟨z_57, I_58, L_59, rfl, rfl, h⟩ := h9
            show am_Run am_X0 (am_meth d) 38 R 93 [some (.ref 0), some (.int s), some (.int a), some (.int x), some (.int 1), none, none] [.int z_57] (am_mk I_58 L_59, 0, 0)
            exact ar_iret rfl rfl h
    · have h := hB c_5
      clear hA hB
      refine ar_aload_n (j := 0) (q := 22) rfl rfl rfl rfl ?_
      refine ar_getf (v := .ref 66) (q := 25) rfl rfl mk_0 rfl rfl ?_
      refine ar_iload_n (j := 1) (q := 26) rfl rfl rfl rfl ?_
      refine ar_invv (as := [.int s]) (rest := []) (b2 := (0, 0)) (b3 := (0, 0)) (q := 29) rfl rfl rfl rfl mk_66 rfl rfl rfl rfl rfl ?_
      refine am_meth_mono d _ _ _ _ _ (fun v9 m9 h9 => ?_) h
      obtain ⟨z_60, I_61, L_62, rfl, rfl, h⟩ := h9
      show am_Run am_X0 (am_meth d) 38 R 29 [some (.ref 0), some (.int s), some (.int a), some (.int x), none, none, none] [.int z_60] (am_mk I_61 L_62, 0, 0)
      refine ar_goto (t := 56) rfl rfl ?_
      refine ar_istore (ls' := [some (.ref 0), some (.int s), some (.int a), some (.int x), some (.int z_60), none, none]) (q := 58) rfl rfl rfl rfl ?_
      refine ar_aload_n (j := 0) (q := 59) rfl rfl rfl rfl ?_
      refine ar_getf (v := .ref 66) (q := 62) rfl rfl mk_0 rfl rfl ?_
      refine ar_getf (v := .ref 70) (q := 65) rfl rfl mk_66 rfl rfl ?_
      refine ar_iload_n (j := 1) (q := 66) rfl rfl rfl rfl ?_
      obtain ⟨j_63, hx_64, hi_65, h⟩ := h
      refine ar_iald (v := I_61 70 j_63) (q := 67) rfl mk_70 (am_inE hi_65 hx_64 (by decide)) (am_clE hi_65 hx_64 (by decide)) rfl ?_
      refine ar_iconst (v := 1) (q := 68) rfl rfl rfl ?_
      obtain ⟨hA, hB⟩ := h
      refine ar_br am_c_ne (t := 76) (q := 71) rfl rfl rfl (fun c_66 => ?_) (fun c_66 => ?_)
      · have h := hA c_66
        clear hA hB
        refine ar_aload_n (j := 0) (q := 77) rfl rfl rfl rfl ?_
        refine ar_bipush (v := (-3 : Int32)) (q := 79) rfl rfl rfl ?_
        refine ar_invv (as := [.int (-3 : Int32)]) (rest := []) (b2 := (0, 0)) (b3 := (0, 0)) (q := 82) rfl rfl rfl rfl mk_0 rfl rfl rfl rfl rfl ?_
        refine am_meth_mono d _ _ _ _ _ (fun v9 m9 h9 => ?_) h
        obtain ⟨z_67, I_68, L_69, rfl, rfl, h⟩ := h9
        show am_Run am_X0 (am_meth d) 38 R 82 [some (.ref 0), some (.int s), some (.int a), some (.int x), some (.int z_60), none, none] [.int z_67] (am_mk I_68 L_69, 0, 0)
        exact ar_iret rfl rfl h
      · have h := hB c_66
        clear hA hB
        refine ar_iload (q := 73) rfl rfl rfl ?_
        obtain ⟨hA, hB⟩ := h
        refine ar_b0 am_c_ne (t := 83) (q := 76) rfl rfl rfl (fun c_70 => ?_) (fun c_70 => ?_)
        · have h := hA c_70
          clear hA hB
          refine ar_iload_n (j := 3) (q := 84) rfl rfl rfl rfl ?_
          obtain ⟨hA, hB⟩ := h
          refine ar_b0 am_c_ge (t := 94) (q := 87) rfl rfl rfl (fun c_71 => ?_) (fun c_71 => ?_)
          · have h := hA c_71
            clear hA hB
            refine ar_iload_n (j := 2) (q := 95) rfl rfl rfl rfl ?_
            obtain ⟨hA, hB⟩ := h
            refine ar_b0 am_c_eq (t := 108) (q := 98) rfl rfl rfl (fun c_72 => ?_) (fun c_72 => ?_)
            · have h := hA c_72
              clear hA hB
              refine ar_aload_n (j := 0) (q := 109) rfl rfl rfl rfl ?_
              refine ar_getf (v := .ref 66) (q := 112) rfl rfl mk_0 rfl rfl ?_
              refine ar_getf (v := .ref 72) (q := 115) rfl rfl mk_66 rfl rfl ?_
              refine ar_astore (ls' := [some (.ref 0), some (.int s), some (.int a), some (.int x), some (.int z_60), some (.ref 72), none]) (q := 117) rfl rfl rfl rfl ?_
              refine ar_aload (q := 119) rfl rfl rfl ?_
              refine ar_iload_n (j := 1) (q := 120) rfl rfl rfl rfl ?_
              obtain ⟨j_73, hx_74, hi_75, h⟩ := h
              refine ar_iald (v := I_61 72 j_73) (q := 121) rfl mk_72 (am_inE hi_75 hx_74 (by decide)) (am_clE hi_75 hx_74 (by decide)) rfl ?_
              refine ar_iconst (v := (-1 : Int32)) (q := 122) rfl rfl rfl ?_
              obtain ⟨hA, hB⟩ := h
              refine ar_br am_c_ne (t := 129) (q := 125) rfl rfl rfl (fun c_76 => ?_) (fun c_76 => ?_)
              · have h := hA c_76
                clear hA hB
                refine ar_iconst (v := 0) (q := 130) rfl rfl rfl ?_
                refine ar_istore (ls' := [some (.ref 0), some (.int s), some (.int a), some (.int x), some (.int z_60), some (.ref 72), some (.int 0)]) (q := 132) rfl rfl rfl rfl ?_
                refine ar_aload (q := 134) rfl rfl rfl ?_
                refine ar_iload_n (j := 1) (q := 135) rfl rfl rfl rfl ?_
                refine ar_iload_n (j := 3) (q := 136) rfl rfl rfl rfl ?_
                obtain ⟨j_77, hx_78, hi_79, h⟩ := h
                obtain ⟨I_80, hI_81⟩ : ∃ z : Nat → Nat → Int32, z = va_up I_61 72 (upd (I_61 72) j_77 x) := ⟨_, rfl⟩
                have h := h I_80 hI_81
                refine ar_iast (hp2 := am_mk I_80 L_62) (q := 137) rfl mk_72 (am_inE hi_79 hx_78 (by decide)) (by rw [am_clT hi_79 hx_78 (by decide), hI_81]; exact mk_s72) rfl ?_
                refine ar_iload (q := 139) rfl rfl rfl ?_
                exact ar_iret rfl rfl h
              · have h := hB c_76
                clear hA hB
                refine ar_iconst (v := 1) (q := 126) rfl rfl rfl ?_
                refine ar_goto (t := 130) rfl rfl ?_
                refine ar_istore (ls' := [some (.ref 0), some (.int s), some (.int a), some (.int x), some (.int z_60), some (.ref 72), some (.int 1)]) (q := 132) rfl rfl rfl rfl ?_
                refine ar_aload (q := 134) rfl rfl rfl ?_
                refine ar_iload_n (j := 1) (q := 135) rfl rfl rfl rfl ?_
                refine ar_iload_n (j := 3) (q := 136) rfl rfl rfl rfl ?_
                obtain ⟨j_82, hx_83, hi_84, h⟩ := h
                obtain ⟨I_85, hI_86⟩ : ∃ z : Nat → Nat → Int32, z = va_up I_61 72 (upd (I_61 72) j_82 x) := ⟨_, rfl⟩
                have h := h I_85 hI_86
                refine ar_iast (hp2 := am_mk I_85 L_62) (q := 137) rfl mk_72 (am_inE hi_84 hx_83 (by decide)) (by rw [am_clT hi_84 hx_83 (by decide), hI_86]; exact mk_s72) rfl ?_
                refine ar_iload (q := 139) rfl rfl rfl ?_
                exact ar_iret rfl rfl h
            · have h := hB c_72
              clear hA hB
              refine ar_aload_n (j := 0) (q := 99) rfl rfl rfl rfl ?_
              refine ar_getf (v := .ref 66) (q := 102) rfl rfl mk_0 rfl rfl ?_
              refine ar_getf (v := .ref 73) (q := 105) rfl rfl mk_66 rfl rfl ?_
              refine ar_goto (t := 115) rfl rfl ?_
              refine ar_astore (ls' := [some (.ref 0), some (.int s), some (.int a), some (.int x), some (.int z_60), some (.ref 73), none]) (q := 117) rfl rfl rfl rfl ?_
              refine ar_aload (q := 119) rfl rfl rfl ?_
              refine ar_iload_n (j := 1) (q := 120) rfl rfl rfl rfl ?_
              obtain ⟨j_87, hx_88, hi_89, h⟩ := h
              refine ar_iald (v := I_61 73 j_87) (q := 121) rfl mk_73 (am_inE hi_89 hx_88 (by decide)) (am_clE hi_89 hx_88 (by decide)) rfl ?_
              refine ar_iconst (v := (-1 : Int32)) (q := 122) rfl rfl rfl ?_
              obtain ⟨hA, hB⟩ := h
              refine ar_br am_c_ne (t := 129) (q := 125) rfl rfl rfl (fun c_90 => ?_) (fun c_90 => ?_)
              · have h := hA c_90
                clear hA hB
                refine ar_iconst (v := 0) (q := 130) rfl rfl rfl ?_
                refine ar_istore (ls' := [some (.ref 0), some (.int s), some (.int a), some (.int x), some (.int z_60), some (.ref 73), some (.int 0)]) (q := 132) rfl rfl rfl rfl ?_
                refine ar_aload (q := 134) rfl rfl rfl ?_
                refine ar_iload_n (j := 1) (q := 135) rfl rfl rfl rfl ?_
                refine ar_iload_n (j := 3) (q := 136) rfl rfl rfl rfl ?_
                obtain ⟨j_91, hx_92, hi_93, h⟩ := h
                obtain ⟨I_94, hI_95⟩ : ∃ z : Nat → Nat → Int32, z = va_up I_61 73 (upd (I_61 73) j_91 x) := ⟨_, rfl⟩
                have h := h I_94 hI_95
                refine ar_iast (hp2 := am_mk I_94 L_62) (q := 137) rfl mk_73 (am_inE hi_93 hx_92 (by decide)) (by rw [am_clT hi_93 hx_92 (by decide), hI_95]; exact mk_s73) rfl ?_
                refine ar_iload (q := 139) rfl rfl rfl ?_
                exact ar_iret rfl rfl h
              · have h := hB c_90
                clear hA hB
                refine ar_iconst (v := 1) (q := 126) rfl rfl rfl ?_
                refine ar_goto (t := 130) rfl rfl ?_
                refine ar_istore (ls' := [some (.ref 0), some (.int s), some (.int a), some (.int x), some (.int z_60), some (.ref 73), some (.int 1)]) (q := 132) rfl rfl rfl rfl ?_
                refine ar_aload (q := 134) rfl rfl rfl ?_
                refine ar_iload_n (j := 1) (q := 135) rfl rfl rfl rfl ?_
                refine ar_iload_n (j := 3) (q := 136) rfl rfl rfl rfl ?_
                obtain ⟨j_96, hx_97, hi_98, h⟩ := h
                obtain ⟨I_99, hI_100⟩ : ∃ z : Nat → Nat → Int32, z = va_up I_61 73 (upd (I_61 73) j_96 x) := ⟨_, rfl⟩
                have h := h I_99 hI_100
                refine ar_iast (hp2 := am_mk I_99 L_62) (q := 137) rfl mk_73 (am_inE hi_98 hx_97 (by decide)) (by rw [am_clT hi_98 hx_97 (by decide), hI_100]; exact mk_s73) rfl ?_
                refine ar_iload (q := 139) rfl rfl rfl ?_
                exact ar_iret rfl rfl h
          · have h := hB c_71
            clear hA hB
            refine ar_aload_n (j := 0) (q := 88) rfl rfl rfl rfl ?_
            refine ar_bipush (v := (-4 : Int32)) (q := 90) rfl rfl rfl ?_
            refine ar_invv (as := [.int (-4 : Int32)]) (rest := []) (b2 := (0, 0)) (b3 := (0, 0)) (q := 93) rfl rfl rfl rfl mk_0 rfl rfl rfl rfl rfl ?_
            refine am_meth_mono d _ _ _ _ _ (fun v9 m9 h9 => ?_) h
            obtain ⟨z_101, I_102, L_103, rfl, rfl, h⟩ := h9
            show am_Run am_X0 (am_meth d) 38 R 93 [some (.ref 0), some (.int s), some (.int a), some (.int x), some (.int z_60), none, none] [.int z_101] (am_mk I_102 L_103, 0, 0)
            exact ar_iret rfl rfl h
        · have h := hB c_70
          clear hA hB
          refine ar_aload_n (j := 0) (q := 77) rfl rfl rfl rfl ?_
          refine ar_bipush (v := (-3 : Int32)) (q := 79) rfl rfl rfl ?_
          refine ar_invv (as := [.int (-3 : Int32)]) (rest := []) (b2 := (0, 0)) (b3 := (0, 0)) (q := 82) rfl rfl rfl rfl mk_0 rfl rfl rfl rfl rfl ?_
          refine am_meth_mono d _ _ _ _ _ (fun v9 m9 h9 => ?_) h
          obtain ⟨z_104, I_105, L_106, rfl, rfl, h⟩ := h9
          show am_Run am_X0 (am_meth d) 38 R 82 [some (.ref 0), some (.int s), some (.int a), some (.int x), some (.int z_60), none, none] [.int z_104] (am_mk I_105 L_106, 0, 0)
          exact ar_iret rfl rfl h
  · have h := hB c_4
    clear hA hB
    refine ar_aload_n (j := 0) (q := 12) rfl rfl rfl rfl ?_
    refine ar_iconst (v := (-1 : Int32)) (q := 13) rfl rfl rfl ?_
    refine ar_invv (as := [.int (-1 : Int32)]) (rest := []) (b2 := (0, 0)) (b3 := (0, 0)) (q := 16) rfl rfl rfl rfl mk_0 rfl rfl rfl rfl rfl ?_
    refine am_meth_mono d _ _ _ _ _ (fun v9 m9 h9 => ?_) h
    obtain ⟨z_107, I_108, L_109, rfl, rfl, h⟩ := h9
    show am_Run am_X0 (am_meth d) 38 R 16 [some (.ref 0), some (.int s), some (.int a), some (.int x), none, none, none] [.int z_107] (am_mk I_108 L_109, 0, 0)
    exact ar_iret rfl rfl h
theorem r_H_putInto_row_0 {d : Nat} {R : am_R} {I : Nat → Nat → Int32} {L : Nat → Nat → Int64} {v : Int32} (h : am_meth d 5 [.int v, .int (-1 : Int32), .int 99] (am_mk I L, 0, 0) (am_ri (fun z_1 I_2 L_3 => ((z_1 = 0 → (am_meth d 86 [.ref 95, .int 1] (am_mk I_2 L_3, 0, 0) (am_ri (fun z_5 I_6 L_7 => ((¬ z_5 = 0 → (am_meth d 87 [.ref 95, .int v] (am_mk I_6 L_7, 0, 0) (am_rv (fun I_9 L_10 => R (some (.int (I_9 95 0))) (am_mk I_9 L_10, 0, 0))))) ∧ (¬ (¬ z_5 = 0) → (am_meth d 2 [.ref 0, .int (-6 : Int32)] (am_mk I_6 L_7, 0, 0) (am_ri (fun z_11 I_12 L_13 => R (some (.int z_11)) (am_mk I_12 L_13, 0, 0)))))))))) ∧ (¬ (z_1 = 0) → (am_meth d 2 [.ref 0, .int z_1] (am_mk I_2 L_3, 0, 0) (am_ri (fun z_14 I_15 L_16 => R (some (.int z_14)) (am_mk I_15 L_16, 0, 0))))))))) : am_Run am_X0 (am_meth d) 25 R 0 [some (.ref 0), some (.ref 95), some (.int v), none] [] (am_mk I L, 0, 0) := by
  refine ar_iload_n (j := 2) (q := 1) rfl rfl rfl rfl ?_
  refine ar_iconst (v := (-1 : Int32)) (q := 2) rfl rfl rfl ?_
  refine ar_bipush (v := 99) (q := 4) rfl rfl rfl ?_
  refine ar_invs (as := [.int v, .int (-1 : Int32), .int 99]) (rest := []) (b2 := (0, 0)) (b3 := (0, 0)) (q := 7) rfl rfl rfl rfl rfl rfl rfl rfl rfl ?_
  refine am_meth_mono d _ _ _ _ _ (fun v9 m9 h9 => ?_) h
  obtain ⟨z_1, I_2, L_3, rfl, rfl, h⟩ := h9
  show am_Run am_X0 (am_meth d) 25 R 7 [some (.ref 0), some (.ref 95), some (.int v), none] [.int z_1] (am_mk I_2 L_3, 0, 0)
  refine ar_istore_n (j := 3) (ls' := [some (.ref 0), some (.ref 95), some (.int v), some (.int z_1)]) (q := 8) rfl rfl rfl rfl rfl ?_
  refine ar_iload_n (j := 3) (q := 9) rfl rfl rfl rfl ?_
  obtain ⟨hA, hB⟩ := h
  refine ar_b0 am_c_eq (t := 18) (q := 12) rfl rfl rfl (fun c_4 => ?_) (fun c_4 => ?_)
  · have h := hA c_4
    clear hA hB
    refine ar_aload_n (j := 1) (q := 19) rfl rfl rfl rfl ?_
    refine ar_iconst (v := 1) (q := 20) rfl rfl rfl ?_
    refine ar_invv (as := [.int 1]) (rest := []) (b2 := (0, 0)) (b3 := (0, 0)) (q := 23) rfl rfl rfl rfl mk_95 rfl rfl rfl rfl rfl ?_
    refine am_meth_mono d _ _ _ _ _ (fun v9 m9 h9 => ?_) h
    obtain ⟨z_5, I_6, L_7, rfl, rfl, h⟩ := h9
    show am_Run am_X0 (am_meth d) 25 R 23 [some (.ref 0), some (.ref 95), some (.int v), some (.int z_1)] [.int z_5] (am_mk I_6 L_7, 0, 0)
    obtain ⟨hA, hB⟩ := h
    refine ar_b0 am_c_ne (t := 33) (q := 26) rfl rfl rfl (fun c_8 => ?_) (fun c_8 => ?_)
    · have h := hA c_8
      clear hA hB
      refine ar_aload_n (j := 1) (q := 34) rfl rfl rfl rfl ?_
      refine ar_iload_n (j := 2) (q := 35) rfl rfl rfl rfl ?_
      refine ar_invv (as := [.int v]) (rest := []) (b2 := (0, 0)) (b3 := (0, 0)) (q := 38) rfl rfl rfl rfl mk_95 rfl rfl rfl rfl rfl ?_
      refine am_meth_mono d _ _ _ _ _ (fun v9 m9 h9 => ?_) h
      obtain ⟨I_9, L_10, rfl, rfl, h⟩ := h9
      show am_Run am_X0 (am_meth d) 25 R 38 [some (.ref 0), some (.ref 95), some (.int v), some (.int z_1)] [] (am_mk I_9 L_10, 0, 0)
      refine ar_aload_n (j := 1) (q := 39) rfl rfl rfl rfl ?_
      refine ar_getf (v := .int (I_9 95 0)) (q := 42) rfl rfl mk_95 rfl rfl ?_
      exact ar_iret rfl rfl h
    · have h := hB c_8
      clear hA hB
      refine ar_aload_n (j := 0) (q := 27) rfl rfl rfl rfl ?_
      refine ar_bipush (v := (-6 : Int32)) (q := 29) rfl rfl rfl ?_
      refine ar_invv (as := [.int (-6 : Int32)]) (rest := []) (b2 := (0, 0)) (b3 := (0, 0)) (q := 32) rfl rfl rfl rfl mk_0 rfl rfl rfl rfl rfl ?_
      refine am_meth_mono d _ _ _ _ _ (fun v9 m9 h9 => ?_) h
      obtain ⟨z_11, I_12, L_13, rfl, rfl, h⟩ := h9
      show am_Run am_X0 (am_meth d) 25 R 32 [some (.ref 0), some (.ref 95), some (.int v), some (.int z_1)] [.int z_11] (am_mk I_12 L_13, 0, 0)
      exact ar_iret rfl rfl h
  · have h := hB c_4
    clear hA hB
    refine ar_aload_n (j := 0) (q := 13) rfl rfl rfl rfl ?_
    refine ar_iload_n (j := 3) (q := 14) rfl rfl rfl rfl ?_
    refine ar_invv (as := [.int z_1]) (rest := []) (b2 := (0, 0)) (b3 := (0, 0)) (q := 17) rfl rfl rfl rfl mk_0 rfl rfl rfl rfl rfl ?_
    refine am_meth_mono d _ _ _ _ _ (fun v9 m9 h9 => ?_) h
    obtain ⟨z_14, I_15, L_16, rfl, rfl, h⟩ := h9
    show am_Run am_X0 (am_meth d) 25 R 17 [some (.ref 0), some (.ref 95), some (.int v), some (.int z_1)] [.int z_14] (am_mk I_15 L_16, 0, 0)
    exact ar_iret rfl rfl h
theorem r_H_putInto_told_0 {d : Nat} {R : am_R} {I : Nat → Nat → Int32} {L : Nat → Nat → Int64} {v : Int32} (h : am_meth d 5 [.int v, .int (-1 : Int32), .int 99] (am_mk I L, 0, 0) (am_ri (fun z_1 I_2 L_3 => ((z_1 = 0 → (am_meth d 86 [.ref 97, .int 1] (am_mk I_2 L_3, 0, 0) (am_ri (fun z_5 I_6 L_7 => ((¬ z_5 = 0 → (am_meth d 87 [.ref 97, .int v] (am_mk I_6 L_7, 0, 0) (am_rv (fun I_9 L_10 => R (some (.int (I_9 97 0))) (am_mk I_9 L_10, 0, 0))))) ∧ (¬ (¬ z_5 = 0) → (am_meth d 2 [.ref 0, .int (-6 : Int32)] (am_mk I_6 L_7, 0, 0) (am_ri (fun z_11 I_12 L_13 => R (some (.int z_11)) (am_mk I_12 L_13, 0, 0)))))))))) ∧ (¬ (z_1 = 0) → (am_meth d 2 [.ref 0, .int z_1] (am_mk I_2 L_3, 0, 0) (am_ri (fun z_14 I_15 L_16 => R (some (.int z_14)) (am_mk I_15 L_16, 0, 0))))))))) : am_Run am_X0 (am_meth d) 25 R 0 [some (.ref 0), some (.ref 97), some (.int v), none] [] (am_mk I L, 0, 0) := by
  refine ar_iload_n (j := 2) (q := 1) rfl rfl rfl rfl ?_
  refine ar_iconst (v := (-1 : Int32)) (q := 2) rfl rfl rfl ?_
  refine ar_bipush (v := 99) (q := 4) rfl rfl rfl ?_
  refine ar_invs (as := [.int v, .int (-1 : Int32), .int 99]) (rest := []) (b2 := (0, 0)) (b3 := (0, 0)) (q := 7) rfl rfl rfl rfl rfl rfl rfl rfl rfl ?_
  refine am_meth_mono d _ _ _ _ _ (fun v9 m9 h9 => ?_) h
  obtain ⟨z_1, I_2, L_3, rfl, rfl, h⟩ := h9
  show am_Run am_X0 (am_meth d) 25 R 7 [some (.ref 0), some (.ref 97), some (.int v), none] [.int z_1] (am_mk I_2 L_3, 0, 0)
  refine ar_istore_n (j := 3) (ls' := [some (.ref 0), some (.ref 97), some (.int v), some (.int z_1)]) (q := 8) rfl rfl rfl rfl rfl ?_
  refine ar_iload_n (j := 3) (q := 9) rfl rfl rfl rfl ?_
  obtain ⟨hA, hB⟩ := h
  refine ar_b0 am_c_eq (t := 18) (q := 12) rfl rfl rfl (fun c_4 => ?_) (fun c_4 => ?_)
  · have h := hA c_4
    clear hA hB
    refine ar_aload_n (j := 1) (q := 19) rfl rfl rfl rfl ?_
    refine ar_iconst (v := 1) (q := 20) rfl rfl rfl ?_
    refine ar_invv (as := [.int 1]) (rest := []) (b2 := (0, 0)) (b3 := (0, 0)) (q := 23) rfl rfl rfl rfl mk_97 rfl rfl rfl rfl rfl ?_
    refine am_meth_mono d _ _ _ _ _ (fun v9 m9 h9 => ?_) h
    obtain ⟨z_5, I_6, L_7, rfl, rfl, h⟩ := h9
    show am_Run am_X0 (am_meth d) 25 R 23 [some (.ref 0), some (.ref 97), some (.int v), some (.int z_1)] [.int z_5] (am_mk I_6 L_7, 0, 0)
    obtain ⟨hA, hB⟩ := h
    refine ar_b0 am_c_ne (t := 33) (q := 26) rfl rfl rfl (fun c_8 => ?_) (fun c_8 => ?_)
    · have h := hA c_8
      clear hA hB
      refine ar_aload_n (j := 1) (q := 34) rfl rfl rfl rfl ?_
      refine ar_iload_n (j := 2) (q := 35) rfl rfl rfl rfl ?_
      refine ar_invv (as := [.int v]) (rest := []) (b2 := (0, 0)) (b3 := (0, 0)) (q := 38) rfl rfl rfl rfl mk_97 rfl rfl rfl rfl rfl ?_
      refine am_meth_mono d _ _ _ _ _ (fun v9 m9 h9 => ?_) h
      obtain ⟨I_9, L_10, rfl, rfl, h⟩ := h9
      show am_Run am_X0 (am_meth d) 25 R 38 [some (.ref 0), some (.ref 97), some (.int v), some (.int z_1)] [] (am_mk I_9 L_10, 0, 0)
      refine ar_aload_n (j := 1) (q := 39) rfl rfl rfl rfl ?_
      refine ar_getf (v := .int (I_9 97 0)) (q := 42) rfl rfl mk_97 rfl rfl ?_
      exact ar_iret rfl rfl h
    · have h := hB c_8
      clear hA hB
      refine ar_aload_n (j := 0) (q := 27) rfl rfl rfl rfl ?_
      refine ar_bipush (v := (-6 : Int32)) (q := 29) rfl rfl rfl ?_
      refine ar_invv (as := [.int (-6 : Int32)]) (rest := []) (b2 := (0, 0)) (b3 := (0, 0)) (q := 32) rfl rfl rfl rfl mk_0 rfl rfl rfl rfl rfl ?_
      refine am_meth_mono d _ _ _ _ _ (fun v9 m9 h9 => ?_) h
      obtain ⟨z_11, I_12, L_13, rfl, rfl, h⟩ := h9
      show am_Run am_X0 (am_meth d) 25 R 32 [some (.ref 0), some (.ref 97), some (.int v), some (.int z_1)] [.int z_11] (am_mk I_12 L_13, 0, 0)
      exact ar_iret rfl rfl h
  · have h := hB c_4
    clear hA hB
    refine ar_aload_n (j := 0) (q := 13) rfl rfl rfl rfl ?_
    refine ar_iload_n (j := 3) (q := 14) rfl rfl rfl rfl ?_
    refine ar_invv (as := [.int z_1]) (rest := []) (b2 := (0, 0)) (b3 := (0, 0)) (q := 17) rfl rfl rfl rfl mk_0 rfl rfl rfl rfl rfl ?_
    refine am_meth_mono d _ _ _ _ _ (fun v9 m9 h9 => ?_) h
    obtain ⟨z_14, I_15, L_16, rfl, rfl, h⟩ := h9
    show am_Run am_X0 (am_meth d) 25 R 17 [some (.ref 0), some (.ref 97), some (.int v), some (.int z_1)] [.int z_14] (am_mk I_15 L_16, 0, 0)
    exact ar_iret rfl rfl h
theorem r_M_no_0 {d : Nat} {R : am_R} {I : Nat → Nat → Int32} {L : Nat → Nat → Int64} {x : Int32} (h : ∃ j_1 : Nat, j_1 < 7 ∧ -x = nI j_1 ∧ (∃ j_4 : Nat, j_4 < 7 ∧ -x = nI j_4 ∧ (∀ I_7 : Nat → Nat → Int32, I_7 = va_up I 156 (upd (I 156) j_4 ((I 156 j_1) + 1)) → (R (some (.int x)) (am_mk I_7 L, 0, 0))))) : am_Run am_X0 (am_meth d) 151 R 0 [some (.ref 113), some (.int x)] [] (am_mk I L, 0, 0) := by
  refine ar_aload_n (j := 0) (q := 1) rfl rfl rfl rfl ?_
  refine ar_getf (v := .ref 156) (q := 4) rfl rfl mk_113 rfl rfl ?_
  refine ar_iload_n (j := 1) (q := 5) rfl rfl rfl rfl ?_
  refine ar_st (i := .ineg) (n := 1) (st' := [.int (-x), .ref 156]) (q := 6) rfl rfl rfl rfl ?_
  refine ar_st (i := .dup2) (n := 1) (st' := [.int (-x), .ref 156, .int (-x), .ref 156]) (q := 7) rfl rfl rfl rfl ?_
  obtain ⟨j_1, hx_2, hi_3, h⟩ := h
  refine ar_iald (v := I 156 j_1) (q := 8) rfl mk_156 (am_inE hi_3 hx_2 (by decide)) (am_clE hi_3 hx_2 (by decide)) rfl ?_
  refine ar_iconst (v := 1) (q := 9) rfl rfl rfl ?_
  refine ar_ib (i := .iadd) (z := (I 156 j_1) + 1) (q := 10) rfl rfl rfl rfl rfl ?_
  obtain ⟨j_4, hx_5, hi_6, h⟩ := h
  obtain ⟨I_7, hI_8⟩ : ∃ z : Nat → Nat → Int32, z = va_up I 156 (upd (I 156) j_4 ((I 156 j_1) + 1)) := ⟨_, rfl⟩
  have h := h I_7 hI_8
  refine ar_iast (hp2 := am_mk I_7 L) (q := 11) rfl mk_156 (am_inE hi_6 hx_5 (by decide)) (by rw [am_clT hi_6 hx_5 (by decide), hI_8]; exact mk_s156) rfl ?_
  refine ar_iload_n (j := 1) (q := 12) rfl rfl rfl rfl ?_
  exact ar_iret rfl rfl h
theorem r_M_far_0 {d : Nat} {R : am_R} {I : Nat → Nat → Int32} {L : Nat → Nat → Int64} {x : Int32} (h : am_meth d 151 [.ref 113, .int x] (am_mk I L, 0, 0) (am_ri (fun z_1 I_2 L_3 => R (some (.int (1000000000 - z_1))) (am_mk I_2 L_3, 0, 0)))) : am_Run am_X0 (am_meth d) 199 R 0 [some (.ref 113), some (.int x)] [] (am_mk I L, 0, 0) := by
  refine ar_ldc (v := 1000000000) (q := 2) rfl rfl rfl ?_
  refine ar_aload_n (j := 0) (q := 3) rfl rfl rfl rfl ?_
  refine ar_iload_n (j := 1) (q := 4) rfl rfl rfl rfl ?_
  refine ar_invv (as := [.int x]) (rest := [.int 1000000000]) (b2 := (0, 0)) (b3 := (0, 0)) (q := 7) rfl rfl rfl rfl mk_113 rfl rfl rfl rfl rfl ?_
  refine am_meth_mono d _ _ _ _ _ (fun v9 m9 h9 => ?_) h
  obtain ⟨z_1, I_2, L_3, rfl, rfl, h⟩ := h9
  show am_Run am_X0 (am_meth d) 199 R 7 [some (.ref 113), some (.int x)] [.int z_1, .int 1000000000] (am_mk I_2 L_3, 0, 0)
  refine ar_ib (i := .isub) (z := 1000000000 - z_1) (q := 8) rfl rfl rfl rfl rfl ?_
  exact ar_iret rfl rfl h
theorem r_M_isKeeper_0 {d : Nat} {R : am_R} {I : Nat → Nat → Int32} {L : Nat → Nat → Int64} {x : Int32} (h : ((x < 0 → (R (some (.int 0)) (am_mk I L, 0, 0))) ∧ (¬ (x < 0) → ((((I 113 4) ≤ x → (R (some (.int 0)) (am_mk I L, 0, 0))) ∧ (¬ ((I 113 4) ≤ x) → (R (some (.int 1)) (am_mk I L, 0, 0)))))))) : am_Run am_X0 (am_meth d) 164 R 0 [some (.ref 113), some (.int x)] [] (am_mk I L, 0, 0) := by
  refine ar_iload_n (j := 1) (q := 1) rfl rfl rfl rfl ?_
  obtain ⟨hA, hB⟩ := h
  refine ar_b0 am_c_lt (t := 16) (q := 4) rfl rfl rfl (fun c_1 => ?_) (fun c_1 => ?_)
  · have h := hA c_1
    clear hA hB
    refine ar_iconst (v := 0) (q := 17) rfl rfl rfl ?_
    exact ar_zret rfl rfl (Or.inl rfl) h
  · have h := hB c_1
    clear hA hB
    refine ar_iload_n (j := 1) (q := 5) rfl rfl rfl rfl ?_
    refine ar_aload_n (j := 0) (q := 6) rfl rfl rfl rfl ?_
    refine ar_getf (v := .int (I 113 4)) (q := 9) rfl rfl mk_113 rfl rfl ?_
    obtain ⟨hA, hB⟩ := h
    refine ar_br am_c_ge (t := 16) (q := 12) rfl rfl rfl (fun c_2 => ?_) (fun c_2 => ?_)
    · have h := hA c_2
      clear hA hB
      refine ar_iconst (v := 0) (q := 17) rfl rfl rfl ?_
      exact ar_zret rfl rfl (Or.inl rfl) h
    · have h := hB c_2
      clear hA hB
      refine ar_iconst (v := 1) (q := 13) rfl rfl rfl ?_
      refine ar_goto (t := 17) rfl rfl ?_
      exact ar_zret rfl rfl (Or.inr rfl) h
theorem r_M_isHouse_0 {d : Nat} {R : am_R} {I : Nat → Nat → Int32} {L : Nat → Nat → Int64} {x : Int32} (h : ((x < 0 → (R (some (.int 0)) (am_mk I L, 0, 0))) ∧ (¬ (x < 0) → ((((I 113 10) ≤ x → (R (some (.int 0)) (am_mk I L, 0, 0))) ∧ (¬ ((I 113 10) ≤ x) → (R (some (.int 1)) (am_mk I L, 0, 0)))))))) : am_Run am_X0 (am_meth d) 159 R 0 [some (.ref 113), some (.int x)] [] (am_mk I L, 0, 0) := by
  refine ar_iload_n (j := 1) (q := 1) rfl rfl rfl rfl ?_
  obtain ⟨hA, hB⟩ := h
  refine ar_b0 am_c_lt (t := 16) (q := 4) rfl rfl rfl (fun c_1 => ?_) (fun c_1 => ?_)
  · have h := hA c_1
    clear hA hB
    refine ar_iconst (v := 0) (q := 17) rfl rfl rfl ?_
    exact ar_zret rfl rfl (Or.inl rfl) h
  · have h := hB c_1
    clear hA hB
    refine ar_iload_n (j := 1) (q := 5) rfl rfl rfl rfl ?_
    refine ar_aload_n (j := 0) (q := 6) rfl rfl rfl rfl ?_
    refine ar_getf (v := .int (I 113 10)) (q := 9) rfl rfl mk_113 rfl rfl ?_
    obtain ⟨hA, hB⟩ := h
    refine ar_br am_c_ge (t := 16) (q := 12) rfl rfl rfl (fun c_2 => ?_) (fun c_2 => ?_)
    · have h := hA c_2
      clear hA hB
      refine ar_iconst (v := 0) (q := 17) rfl rfl rfl ?_
      exact ar_zret rfl rfl (Or.inl rfl) h
    · have h := hB c_2
      clear hA hB
      refine ar_iconst (v := 1) (q := 13) rfl rfl rfl ?_
      refine ar_goto (t := 17) rfl rfl ?_
      exact ar_zret rfl rfl (Or.inr rfl) h
theorem r_M_isStay_0 {d : Nat} {R : am_R} {I : Nat → Nat → Int32} {L : Nat → Nat → Int64} {x : Int32} (h : ((x < 0 → (R (some (.int 0)) (am_mk I L, 0, 0))) ∧ (¬ (x < 0) → ((((I 113 14) ≤ x → (R (some (.int 0)) (am_mk I L, 0, 0))) ∧ (¬ ((I 113 14) ≤ x) → (R (some (.int 1)) (am_mk I L, 0, 0)))))))) : am_Run am_X0 (am_meth d) 161 R 0 [some (.ref 113), some (.int x)] [] (am_mk I L, 0, 0) := by
  refine ar_iload_n (j := 1) (q := 1) rfl rfl rfl rfl ?_
  obtain ⟨hA, hB⟩ := h
  refine ar_b0 am_c_lt (t := 16) (q := 4) rfl rfl rfl (fun c_1 => ?_) (fun c_1 => ?_)
  · have h := hA c_1
    clear hA hB
    refine ar_iconst (v := 0) (q := 17) rfl rfl rfl ?_
    exact ar_zret rfl rfl (Or.inl rfl) h
  · have h := hB c_1
    clear hA hB
    refine ar_iload_n (j := 1) (q := 5) rfl rfl rfl rfl ?_
    refine ar_aload_n (j := 0) (q := 6) rfl rfl rfl rfl ?_
    refine ar_getf (v := .int (I 113 14)) (q := 9) rfl rfl mk_113 rfl rfl ?_
    obtain ⟨hA, hB⟩ := h
    refine ar_br am_c_ge (t := 16) (q := 12) rfl rfl rfl (fun c_2 => ?_) (fun c_2 => ?_)
    · have h := hA c_2
      clear hA hB
      refine ar_iconst (v := 0) (q := 17) rfl rfl rfl ?_
      exact ar_zret rfl rfl (Or.inl rfl) h
    · have h := hB c_2
      clear hA hB
      refine ar_iconst (v := 1) (q := 13) rfl rfl rfl ?_
      refine ar_goto (t := 17) rfl rfl ?_
      exact ar_zret rfl rfl (Or.inr rfl) h
theorem r_M_isTown_0 {d : Nat} {R : am_R} {I : Nat → Nat → Int32} {L : Nat → Nat → Int64} {x : Int32} (h : ((x < 0 → (R (some (.int 0)) (am_mk I L, 0, 0))) ∧ (¬ (x < 0) → (((10 ≤ x → (R (some (.int 0)) (am_mk I L, 0, 0))) ∧ (¬ (10 ≤ x) → (R (some (.int 1)) (am_mk I L, 0, 0)))))))) : am_Run am_X0 (am_meth d) 153 R 0 [some (.ref 113), some (.int x)] [] (am_mk I L, 0, 0) := by
  refine ar_iload_n (j := 1) (q := 1) rfl rfl rfl rfl ?_
  obtain ⟨hA, hB⟩ := h
  refine ar_b0 am_c_lt (t := 14) (q := 4) rfl rfl rfl (fun c_1 => ?_) (fun c_1 => ?_)
  · have h := hA c_1
    clear hA hB
    refine ar_iconst (v := 0) (q := 15) rfl rfl rfl ?_
    exact ar_zret rfl rfl (Or.inl rfl) h
  · have h := hB c_1
    clear hA hB
    refine ar_iload_n (j := 1) (q := 5) rfl rfl rfl rfl ?_
    refine ar_bipush (v := 10) (q := 7) rfl rfl rfl ?_
    obtain ⟨hA, hB⟩ := h
    refine ar_br am_c_ge (t := 14) (q := 10) rfl rfl rfl (fun c_2 => ?_) (fun c_2 => ?_)
    · have h := hA c_2
      clear hA hB
      refine ar_iconst (v := 0) (q := 15) rfl rfl rfl ?_
      exact ar_zret rfl rfl (Or.inl rfl) h
    · have h := hB c_2
      clear hA hB
      refine ar_iconst (v := 1) (q := 11) rfl rfl rfl ?_
      refine ar_goto (t := 15) rfl rfl ?_
      exact ar_zret rfl rfl (Or.inr rfl) h
theorem r_M_townOf_0 {d : Nat} {R : am_R} {I : Nat → Nat → Int32} {L : Nat → Nat → Int64} {s : Nat} (h : s < 60 ∧ (∃ j_2 : Nat, j_2 < 20 ∧ I 125 s = nI j_2 ∧ (R (some (.int (I 122 j_2))) (am_mk I L, 0, 0)))) : am_Run am_X0 (am_meth d) 169 R 0 [some (.ref 113), some (.int (nI s))] [] (am_mk I L, 0, 0) := by
  refine ar_aload_n (j := 0) (q := 1) rfl rfl rfl rfl ?_
  refine ar_getf (v := .ref 122) (q := 4) rfl rfl mk_113 rfl rfl ?_
  refine ar_aload_n (j := 0) (q := 5) rfl rfl rfl rfl ?_
  refine ar_getf (v := .ref 125) (q := 8) rfl rfl mk_113 rfl rfl ?_
  refine ar_iload_n (j := 1) (q := 9) rfl rfl rfl rfl ?_
  obtain ⟨hx_1, h⟩ := h
  refine ar_iald (v := I 125 s) (q := 10) rfl mk_125 (am_inE rfl hx_1 (by decide)) (am_clE rfl hx_1 (by decide)) rfl ?_
  obtain ⟨j_2, hx_3, hi_4, h⟩ := h
  refine ar_iald (v := I 122 j_2) (q := 11) rfl mk_122 (am_inE hi_4 hx_3 (by decide)) (am_clE hi_4 hx_3 (by decide)) rfl ?_
  exact ar_iret rfl rfl h
theorem r_M_isOver_0 {d : Nat} {R : am_R} {I : Nat → Nat → Int32} {L : Nat → Nat → Int64} {s : Nat} (h : s < 60 ∧ ((((I 113 0) ≤ (I 127 s) → (R (some (.int 0)) (am_mk I L, 0, 0))) ∧ (¬ ((I 113 0) ≤ (I 127 s)) → (R (some (.int 1)) (am_mk I L, 0, 0)))))) : am_Run am_X0 (am_meth d) 162 R 0 [some (.ref 113), some (.int (nI s))] [] (am_mk I L, 0, 0) := by
  refine ar_aload_n (j := 0) (q := 1) rfl rfl rfl rfl ?_
  refine ar_getf (v := .ref 127) (q := 4) rfl rfl mk_113 rfl rfl ?_
  refine ar_iload_n (j := 1) (q := 5) rfl rfl rfl rfl ?_
  obtain ⟨hx_1, h⟩ := h
  refine ar_iald (v := I 127 s) (q := 6) rfl mk_127 (am_inE rfl hx_1 (by decide)) (am_clE rfl hx_1 (by decide)) rfl ?_
  refine ar_aload_n (j := 0) (q := 7) rfl rfl rfl rfl ?_
  refine ar_getf (v := .int (I 113 0)) (q := 10) rfl rfl mk_113 rfl rfl ?_
  obtain ⟨hA, hB⟩ := h
  refine ar_br am_c_ge (t := 17) (q := 13) rfl rfl rfl (fun c_2 => ?_) (fun c_2 => ?_)
  · have h := hA c_2
    clear hA hB
    refine ar_iconst (v := 0) (q := 18) rfl rfl rfl ?_
    exact ar_zret rfl rfl (Or.inl rfl) h
  · have h := hB c_2
    clear hA hB
    refine ar_iconst (v := 1) (q := 14) rfl rfl rfl ?_
    refine ar_goto (t := 18) rfl rfl ?_
    exact ar_zret rfl rfl (Or.inr rfl) h
theorem r_M_has_0 {d : Nat} {R : am_R} {I : Nat → Nat → Int32} {L : Nat → Nat → Int64} {w : Int32} {s : Nat} (h : s < 60 ∧ (((¬ (I 128 s) = 1 → (R (some (.int 0)) (am_mk I L, 0, 0))) ∧ (¬ (¬ (I 128 s) = 1) → (s < 60 ∧ (((¬ (I 129 s) = w → (R (some (.int 0)) (am_mk I L, 0, 0))) ∧ (¬ (¬ (I 129 s) = w) → (R (some (.int 1)) (am_mk I L, 0, 0)))))))))) : am_Run am_X0 (am_meth d) 167 R 0 [some (.ref 113), some (.int w), some (.int (nI s))] [] (am_mk I L, 0, 0) := by
  refine ar_aload_n (j := 0) (q := 1) rfl rfl rfl rfl ?_
  refine ar_getf (v := .ref 128) (q := 4) rfl rfl mk_113 rfl rfl ?_
  refine ar_iload_n (j := 2) (q := 5) rfl rfl rfl rfl ?_
  obtain ⟨hx_1, h⟩ := h
  refine ar_iald (v := I 128 s) (q := 6) rfl mk_128 (am_inE rfl hx_1 (by decide)) (am_clE rfl hx_1 (by decide)) rfl ?_
  refine ar_iconst (v := 1) (q := 7) rfl rfl rfl ?_
  obtain ⟨hA, hB⟩ := h
  refine ar_br am_c_ne (t := 24) (q := 10) rfl rfl rfl (fun c_2 => ?_) (fun c_2 => ?_)
  · have h := hA c_2
    clear hA hB
    refine ar_iconst (v := 0) (q := 25) rfl rfl rfl ?_
    exact ar_zret rfl rfl (Or.inl rfl) h
  · have h := hB c_2
    clear hA hB
    refine ar_aload_n (j := 0) (q := 11) rfl rfl rfl rfl ?_
    refine ar_getf (v := .ref 129) (q := 14) rfl rfl mk_113 rfl rfl ?_
    refine ar_iload_n (j := 2) (q := 15) rfl rfl rfl rfl ?_
    obtain ⟨hx_3, h⟩ := h
    refine ar_iald (v := I 129 s) (q := 16) rfl mk_129 (am_inE rfl hx_3 (by decide)) (am_clE rfl hx_3 (by decide)) rfl ?_
    refine ar_iload_n (j := 1) (q := 17) rfl rfl rfl rfl ?_
    obtain ⟨hA, hB⟩ := h
    refine ar_br am_c_ne (t := 24) (q := 20) rfl rfl rfl (fun c_4 => ?_) (fun c_4 => ?_)
    · have h := hA c_4
      clear hA hB
      refine ar_iconst (v := 0) (q := 25) rfl rfl rfl ?_
      exact ar_zret rfl rfl (Or.inl rfl) h
    · have h := hB c_4
      clear hA hB
      refine ar_iconst (v := 1) (q := 21) rfl rfl rfl ?_
      refine ar_goto (t := 25) rfl rfl ?_
      exact ar_zret rfl rfl (Or.inr rfl) h
theorem r_M_days_0 {d : Nat} {R : am_R} {I : Nat → Nat → Int32} {L : Nat → Nat → Int64} {n : Int32} (h : ((1 ≤ n → (((n ≤ (1500 - (I 113 0)) → (∀ I_3 : Nat → Nat → Int32, I_3 = va_up I 113 (upd (I 113) 0 ((I 113 0) + n)) → (R (some (.int (I_3 113 0))) (am_mk I_3 L, 0, 0)))) ∧ (¬ (n ≤ (1500 - (I 113 0))) → (am_meth d 151 [.ref 113, .int (-6 : Int32)] (am_mk I L, 0, 0) (am_ri (fun z_5 I_6 L_7 => R (some (.int z_5)) (am_mk I_6 L_7, 0, 0)))))))) ∧ (¬ (1 ≤ n) → (am_meth d 151 [.ref 113, .int (-4 : Int32)] (am_mk I L, 0, 0) (am_ri (fun z_8 I_9 L_10 => R (some (.int z_8)) (am_mk I_9 L_10, 0, 0))))))) : am_Run am_X0 (am_meth d) 150 R 0 [some (.ref 113), some (.int n)] [] (am_mk I L, 0, 0) := by
  refine ar_iload_n (j := 1) (q := 1) rfl rfl rfl rfl ?_
  refine ar_iconst (v := 1) (q := 2) rfl rfl rfl ?_
  obtain ⟨hA, hB⟩ := h
  refine ar_br am_c_ge (t := 12) (q := 5) rfl rfl rfl (fun c_1 => ?_) (fun c_1 => ?_)
  · have h := hA c_1
    clear hA hB
    refine ar_iload_n (j := 1) (q := 13) rfl rfl rfl rfl ?_
    refine ar_sipush (v := 1500) (q := 16) rfl rfl rfl ?_
    refine ar_aload_n (j := 0) (q := 17) rfl rfl rfl rfl ?_
    refine ar_getf (v := .int (I 113 0)) (q := 20) rfl rfl mk_113 rfl rfl ?_
    refine ar_ib (i := .isub) (z := 1500 - (I 113 0)) (q := 21) rfl rfl rfl rfl rfl ?_
    obtain ⟨hA, hB⟩ := h
    refine ar_br am_c_le (t := 31) (q := 24) rfl rfl rfl (fun c_2 => ?_) (fun c_2 => ?_)
    · have h := hA c_2
      clear hA hB
      refine ar_aload_n (j := 0) (q := 32) rfl rfl rfl rfl ?_
      refine ar_st (i := .dup) (n := 1) (st' := [.ref 113, .ref 113]) (q := 33) rfl rfl rfl rfl ?_
      refine ar_getf (v := .int (I 113 0)) (q := 36) rfl rfl mk_113 rfl rfl ?_
      refine ar_iload_n (j := 1) (q := 37) rfl rfl rfl rfl ?_
      refine ar_ib (i := .iadd) (z := (I 113 0) + n) (q := 38) rfl rfl rfl rfl rfl ?_
      obtain ⟨I_3, hI_4⟩ : ∃ z : Nat → Nat → Int32, z = va_up I 113 (upd (I 113) 0 ((I 113 0) + n)) := ⟨_, rfl⟩
      have h := h I_3 hI_4
      refine ar_putf (hp2 := am_mk I_3 L) (q := 41) rfl rfl mk_113 rfl (by rw [hI_4]; exact mk_p113_0) rfl ?_
      refine ar_aload_n (j := 0) (q := 42) rfl rfl rfl rfl ?_
      refine ar_getf (v := .int (I_3 113 0)) (q := 45) rfl rfl mk_113 rfl rfl ?_
      exact ar_iret rfl rfl h
    · have h := hB c_2
      clear hA hB
      refine ar_aload_n (j := 0) (q := 25) rfl rfl rfl rfl ?_
      refine ar_bipush (v := (-6 : Int32)) (q := 27) rfl rfl rfl ?_
      refine ar_invv (as := [.int (-6 : Int32)]) (rest := []) (b2 := (0, 0)) (b3 := (0, 0)) (q := 30) rfl rfl rfl rfl mk_113 rfl rfl rfl rfl rfl ?_
      refine am_meth_mono d _ _ _ _ _ (fun v9 m9 h9 => ?_) h
      obtain ⟨z_5, I_6, L_7, rfl, rfl, h⟩ := h9
      show am_Run am_X0 (am_meth d) 150 R 30 [some (.ref 113), some (.int n)] [.int z_5] (am_mk I_6 L_7, 0, 0)
      exact ar_iret rfl rfl h
  · have h := hB c_1
    clear hA hB
    refine ar_aload_n (j := 0) (q := 6) rfl rfl rfl rfl ?_
    refine ar_bipush (v := (-4 : Int32)) (q := 8) rfl rfl rfl ?_
    refine ar_invv (as := [.int (-4 : Int32)]) (rest := []) (b2 := (0, 0)) (b3 := (0, 0)) (q := 11) rfl rfl rfl rfl mk_113 rfl rfl rfl rfl rfl ?_
    refine am_meth_mono d _ _ _ _ _ (fun v9 m9 h9 => ?_) h
    obtain ⟨z_8, I_9, L_10, rfl, rfl, h⟩ := h9
    show am_Run am_X0 (am_meth d) 150 R 11 [some (.ref 113), some (.int n)] [.int z_8] (am_mk I_9 L_10, 0, 0)
    exact ar_iret rfl rfl h
theorem r_M_town_0 {d : Nat} {R : am_R} {I : Nat → Nat → Int32} {L : Nat → Nat → Int64} {t : Int32} {l : Int32} (h : am_meth d 153 [.ref 113, .int t] (am_mk I L, 0, 0) (am_ri (fun z_1 I_2 L_3 => ((z_1 = 0 → (am_meth d 151 [.ref 113, .int (-1 : Int32)] (am_mk I_2 L_3, 0, 0) (am_ri (fun z_5 I_6 L_7 => R (some (.int z_5)) (am_mk I_6 L_7, 0, 0))))) ∧ (¬ (z_1 = 0) → (((l < 0 → (am_meth d 151 [.ref 113, .int (-1 : Int32)] (am_mk I_2 L_3, 0, 0) (am_ri (fun z_9 I_10 L_11 => R (some (.int z_9)) (am_mk I_10 L_11, 0, 0))))) ∧ (¬ (l < 0) → (((l ≤ 4 → (∃ j_13 : Nat, j_13 < 10 ∧ t = nI j_13 ∧ (∃ j_16 : Nat, j_16 < 10 ∧ t = nI j_16 ∧ (∀ I_19 : Nat → Nat → Int32, I_19 = va_up I_2 114 (upd (I_2 114) j_16 l) → (R (some (.int (I_2 114 j_13))) (am_mk I_19 L_3, 0, 0)))))) ∧ (¬ (l ≤ 4) → (am_meth d 151 [.ref 113, .int (-1 : Int32)] (am_mk I_2 L_3, 0, 0) (am_ri (fun z_21 I_22 L_23 => R (some (.int z_21)) (am_mk I_22 L_23, 0, 0))))))))))))))) : am_Run am_X0 (am_meth d) 152 R 0 [some (.ref 113), some (.int t), some (.int l), none] [] (am_mk I L, 0, 0) := by
  refine ar_aload_n (j := 0) (q := 1) rfl rfl rfl rfl ?_
  refine ar_iload_n (j := 1) (q := 2) rfl rfl rfl rfl ?_
  refine ar_invv (as := [.int t]) (rest := []) (b2 := (0, 0)) (b3 := (0, 0)) (q := 5) rfl rfl rfl rfl mk_113 rfl rfl rfl rfl rfl ?_
  refine am_meth_mono d _ _ _ _ _ (fun v9 m9 h9 => ?_) h
  obtain ⟨z_1, I_2, L_3, rfl, rfl, h⟩ := h9
  show am_Run am_X0 (am_meth d) 152 R 5 [some (.ref 113), some (.int t), some (.int l), none] [.int z_1] (am_mk I_2 L_3, 0, 0)
  obtain ⟨hA, hB⟩ := h
  refine ar_b0 am_c_eq (t := 17) (q := 8) rfl rfl rfl (fun c_4 => ?_) (fun c_4 => ?_)
  · have h := hA c_4
    clear hA hB
    refine ar_aload_n (j := 0) (q := 18) rfl rfl rfl rfl ?_
    refine ar_iconst (v := (-1 : Int32)) (q := 19) rfl rfl rfl ?_
    refine ar_invv (as := [.int (-1 : Int32)]) (rest := []) (b2 := (0, 0)) (b3 := (0, 0)) (q := 22) rfl rfl rfl rfl mk_113 rfl rfl rfl rfl rfl ?_
    refine am_meth_mono d _ _ _ _ _ (fun v9 m9 h9 => ?_) h
    obtain ⟨z_5, I_6, L_7, rfl, rfl, h⟩ := h9
    show am_Run am_X0 (am_meth d) 152 R 22 [some (.ref 113), some (.int t), some (.int l), none] [.int z_5] (am_mk I_6 L_7, 0, 0)
    exact ar_iret rfl rfl h
  · have h := hB c_4
    clear hA hB
    refine ar_iload_n (j := 2) (q := 9) rfl rfl rfl rfl ?_
    obtain ⟨hA, hB⟩ := h
    refine ar_b0 am_c_lt (t := 17) (q := 12) rfl rfl rfl (fun c_8 => ?_) (fun c_8 => ?_)
    · have h := hA c_8
      clear hA hB
      refine ar_aload_n (j := 0) (q := 18) rfl rfl rfl rfl ?_
      refine ar_iconst (v := (-1 : Int32)) (q := 19) rfl rfl rfl ?_
      refine ar_invv (as := [.int (-1 : Int32)]) (rest := []) (b2 := (0, 0)) (b3 := (0, 0)) (q := 22) rfl rfl rfl rfl mk_113 rfl rfl rfl rfl rfl ?_
      refine am_meth_mono d _ _ _ _ _ (fun v9 m9 h9 => ?_) h
      obtain ⟨z_9, I_10, L_11, rfl, rfl, h⟩ := h9
      show am_Run am_X0 (am_meth d) 152 R 22 [some (.ref 113), some (.int t), some (.int l), none] [.int z_9] (am_mk I_10 L_11, 0, 0)
      exact ar_iret rfl rfl h
    · have h := hB c_8
      clear hA hB
      refine ar_iload_n (j := 2) (q := 13) rfl rfl rfl rfl ?_
      refine ar_iconst (v := 4) (q := 14) rfl rfl rfl ?_
      obtain ⟨hA, hB⟩ := h
      refine ar_br am_c_le (t := 23) (q := 17) rfl rfl rfl (fun c_12 => ?_) (fun c_12 => ?_)
      · have h := hA c_12
        clear hA hB
        refine ar_aload_n (j := 0) (q := 24) rfl rfl rfl rfl ?_
        refine ar_getf (v := .ref 114) (q := 27) rfl rfl mk_113 rfl rfl ?_
        refine ar_iload_n (j := 1) (q := 28) rfl rfl rfl rfl ?_
        obtain ⟨j_13, hx_14, hi_15, h⟩ := h
        refine ar_iald (v := I_2 114 j_13) (q := 29) rfl mk_114 (am_inE hi_15 hx_14 (by decide)) (am_clE hi_15 hx_14 (by decide)) rfl ?_
        refine ar_istore_n (j := 3) (ls' := [some (.ref 113), some (.int t), some (.int l), some (.int (I_2 114 j_13))]) (q := 30) rfl rfl rfl rfl rfl ?_
        refine ar_aload_n (j := 0) (q := 31) rfl rfl rfl rfl ?_
        refine ar_getf (v := .ref 114) (q := 34) rfl rfl mk_113 rfl rfl ?_
        refine ar_iload_n (j := 1) (q := 35) rfl rfl rfl rfl ?_
        refine ar_iload_n (j := 2) (q := 36) rfl rfl rfl rfl ?_
        obtain ⟨j_16, hx_17, hi_18, h⟩ := h
        obtain ⟨I_19, hI_20⟩ : ∃ z : Nat → Nat → Int32, z = va_up I_2 114 (upd (I_2 114) j_16 l) := ⟨_, rfl⟩
        have h := h I_19 hI_20
        refine ar_iast (hp2 := am_mk I_19 L_3) (q := 37) rfl mk_114 (am_inE hi_18 hx_17 (by decide)) (by rw [am_clT hi_18 hx_17 (by decide), hI_20]; exact mk_s114) rfl ?_
        refine ar_iload_n (j := 3) (q := 38) rfl rfl rfl rfl ?_
        exact ar_iret rfl rfl h
      · have h := hB c_12
        clear hA hB
        refine ar_aload_n (j := 0) (q := 18) rfl rfl rfl rfl ?_
        refine ar_iconst (v := (-1 : Int32)) (q := 19) rfl rfl rfl ?_
        refine ar_invv (as := [.int (-1 : Int32)]) (rest := []) (b2 := (0, 0)) (b3 := (0, 0)) (q := 22) rfl rfl rfl rfl mk_113 rfl rfl rfl rfl rfl ?_
        refine am_meth_mono d _ _ _ _ _ (fun v9 m9 h9 => ?_) h
        obtain ⟨z_21, I_22, L_23, rfl, rfl, h⟩ := h9
        show am_Run am_X0 (am_meth d) 152 R 22 [some (.ref 113), some (.int t), some (.int l), none] [.int z_21] (am_mk I_22 L_23, 0, 0)
        exact ar_iret rfl rfl h
theorem r_M_way_0 {d : Nat} {R : am_R} {I : Nat → Nat → Int32} {L : Nat → Nat → Int64} {a : Int32} {b : Int32} {x : Int32} (h : am_meth d 153 [.ref 113, .int a] (am_mk I L, 0, 0) (am_ri (fun z_1 I_2 L_3 => ((z_1 = 0 → (am_meth d 151 [.ref 113, .int (-1 : Int32)] (am_mk I_2 L_3, 0, 0) (am_ri (fun z_5 I_6 L_7 => R (some (.int z_5)) (am_mk I_6 L_7, 0, 0))))) ∧ (¬ (z_1 = 0) → (am_meth d 153 [.ref 113, .int b] (am_mk I_2 L_3, 0, 0) (am_ri (fun z_8 I_9 L_10 => ((z_8 = 0 → (am_meth d 151 [.ref 113, .int (-1 : Int32)] (am_mk I_9 L_10, 0, 0) (am_ri (fun z_12 I_13 L_14 => R (some (.int z_12)) (am_mk I_13 L_14, 0, 0))))) ∧ (¬ (z_8 = 0) → (((¬ a = b → (((1 ≤ x → (((x ≤ 240 → (∃ j_18 : Nat, j_18 < 100 ∧ (10 * a) + b = nI j_18 ∧ (∃ j_21 : Nat, j_21 < 100 ∧ (10 * a) + b = nI j_21 ∧ (∀ I_24 : Nat → Nat → Int32, I_24 = va_up I_9 115 (upd (I_9 115) j_21 x) → (∃ j_26 : Nat, j_26 < 100 ∧ (10 * b) + a = nI j_26 ∧ (∀ I_29 : Nat → Nat → Int32, I_29 = va_up I_24 115 (upd (I_24 115) j_26 x) → (R (some (.int (I_9 115 j_18))) (am_mk I_29 L_10, 0, 0)))))))) ∧ (¬ (x ≤ 240) → (am_meth d 151 [.ref 113, .int (-6 : Int32)] (am_mk I_9 L_10, 0, 0) (am_ri (fun z_31 I_32 L_33 => R (some (.int z_31)) (am_mk I_32 L_33, 0, 0)))))))) ∧ (¬ (1 ≤ x) → (am_meth d 151 [.ref 113, .int (-4 : Int32)] (am_mk I_9 L_10, 0, 0) (am_ri (fun z_34 I_35 L_36 => R (some (.int z_34)) (am_mk I_35 L_36, 0, 0)))))))) ∧ (¬ (¬ a = b) → (am_meth d 151 [.ref 113, .int (-1 : Int32)] (am_mk I_9 L_10, 0, 0) (am_ri (fun z_37 I_38 L_39 => R (some (.int z_37)) (am_mk I_38 L_39, 0, 0))))))))))))))))) : am_Run am_X0 (am_meth d) 154 R 0 [some (.ref 113), some (.int a), some (.int b), some (.int x), none] [] (am_mk I L, 0, 0) := by
  refine ar_aload_n (j := 0) (q := 1) rfl rfl rfl rfl ?_
  refine ar_iload_n (j := 1) (q := 2) rfl rfl rfl rfl ?_
  refine ar_invv (as := [.int a]) (rest := []) (b2 := (0, 0)) (b3 := (0, 0)) (q := 5) rfl rfl rfl rfl mk_113 rfl rfl rfl rfl rfl ?_
  refine am_meth_mono d _ _ _ _ _ (fun v9 m9 h9 => ?_) h
  obtain ⟨z_1, I_2, L_3, rfl, rfl, h⟩ := h9
  show am_Run am_X0 (am_meth d) 154 R 5 [some (.ref 113), some (.int a), some (.int b), some (.int x), none] [.int z_1] (am_mk I_2 L_3, 0, 0)
  obtain ⟨hA, hB⟩ := h
  refine ar_b0 am_c_eq (t := 21) (q := 8) rfl rfl rfl (fun c_4 => ?_) (fun c_4 => ?_)
  · have h := hA c_4
    clear hA hB
    refine ar_aload_n (j := 0) (q := 22) rfl rfl rfl rfl ?_
    refine ar_iconst (v := (-1 : Int32)) (q := 23) rfl rfl rfl ?_
    refine ar_invv (as := [.int (-1 : Int32)]) (rest := []) (b2 := (0, 0)) (b3 := (0, 0)) (q := 26) rfl rfl rfl rfl mk_113 rfl rfl rfl rfl rfl ?_
    refine am_meth_mono d _ _ _ _ _ (fun v9 m9 h9 => ?_) h
    obtain ⟨z_5, I_6, L_7, rfl, rfl, h⟩ := h9
    show am_Run am_X0 (am_meth d) 154 R 26 [some (.ref 113), some (.int a), some (.int b), some (.int x), none] [.int z_5] (am_mk I_6 L_7, 0, 0)
    exact ar_iret rfl rfl h
  · have h := hB c_4
    clear hA hB
    refine ar_aload_n (j := 0) (q := 9) rfl rfl rfl rfl ?_
    refine ar_iload_n (j := 2) (q := 10) rfl rfl rfl rfl ?_
    refine ar_invv (as := [.int b]) (rest := []) (b2 := (0, 0)) (b3 := (0, 0)) (q := 13) rfl rfl rfl rfl mk_113 rfl rfl rfl rfl rfl ?_
    refine am_meth_mono d _ _ _ _ _ (fun v9 m9 h9 => ?_) h
    obtain ⟨z_8, I_9, L_10, rfl, rfl, h⟩ := h9
    show am_Run am_X0 (am_meth d) 154 R 13 [some (.ref 113), some (.int a), some (.int b), some (.int x), none] [.int z_8] (am_mk I_9 L_10, 0, 0)
    obtain ⟨hA, hB⟩ := h
    refine ar_b0 am_c_eq (t := 21) (q := 16) rfl rfl rfl (fun c_11 => ?_) (fun c_11 => ?_)
    · have h := hA c_11
      clear hA hB
      refine ar_aload_n (j := 0) (q := 22) rfl rfl rfl rfl ?_
      refine ar_iconst (v := (-1 : Int32)) (q := 23) rfl rfl rfl ?_
      refine ar_invv (as := [.int (-1 : Int32)]) (rest := []) (b2 := (0, 0)) (b3 := (0, 0)) (q := 26) rfl rfl rfl rfl mk_113 rfl rfl rfl rfl rfl ?_
      refine am_meth_mono d _ _ _ _ _ (fun v9 m9 h9 => ?_) h
      obtain ⟨z_12, I_13, L_14, rfl, rfl, h⟩ := h9
      show am_Run am_X0 (am_meth d) 154 R 26 [some (.ref 113), some (.int a), some (.int b), some (.int x), none] [.int z_12] (am_mk I_13 L_14, 0, 0)
      exact ar_iret rfl rfl h
    · have h := hB c_11
      clear hA hB
      refine ar_iload_n (j := 1) (q := 17) rfl rfl rfl rfl ?_
      refine ar_iload_n (j := 2) (q := 18) rfl rfl rfl rfl ?_
      obtain ⟨hA, hB⟩ := h
      refine ar_br am_c_ne (t := 27) (q := 21) rfl rfl rfl (fun c_15 => ?_) (fun c_15 => ?_)
      · have h := hA c_15
        clear hA hB
        refine ar_iload_n (j := 3) (q := 28) rfl rfl rfl rfl ?_
        refine ar_iconst (v := 1) (q := 29) rfl rfl rfl ?_
        obtain ⟨hA, hB⟩ := h
        refine ar_br am_c_ge (t := 39) (q := 32) rfl rfl rfl (fun c_16 => ?_) (fun c_16 => ?_)
        · have h := hA c_16
          clear hA hB
          refine ar_iload_n (j := 3) (q := 40) rfl rfl rfl rfl ?_
          refine ar_sipush (v := 240) (q := 43) rfl rfl rfl ?_
          obtain ⟨hA, hB⟩ := h
          refine ar_br am_c_le (t := 53) (q := 46) rfl rfl rfl (fun c_17 => ?_) (fun c_17 => ?_)
          · have h := hA c_17
            clear hA hB
            refine ar_aload_n (j := 0) (q := 54) rfl rfl rfl rfl ?_
            refine ar_getf (v := .ref 115) (q := 57) rfl rfl mk_113 rfl rfl ?_
            refine ar_bipush (v := 10) (q := 59) rfl rfl rfl ?_
            refine ar_iload_n (j := 1) (q := 60) rfl rfl rfl rfl ?_
            refine ar_ib (i := .imul) (z := 10 * a) (q := 61) rfl rfl rfl rfl rfl ?_
            refine ar_iload_n (j := 2) (q := 62) rfl rfl rfl rfl ?_
            refine ar_ib (i := .iadd) (z := (10 * a) + b) (q := 63) rfl rfl rfl rfl rfl ?_
            obtain ⟨j_18, hx_19, hi_20, h⟩ := h
            refine ar_iald (v := I_9 115 j_18) (q := 64) rfl mk_115 (am_inE hi_20 hx_19 (by decide)) (am_clE hi_20 hx_19 (by decide)) rfl ?_
            refine ar_istore (ls' := [some (.ref 113), some (.int a), some (.int b), some (.int x), some (.int (I_9 115 j_18))]) (q := 66) rfl rfl rfl rfl ?_
            refine ar_aload_n (j := 0) (q := 67) rfl rfl rfl rfl ?_
            refine ar_getf (v := .ref 115) (q := 70) rfl rfl mk_113 rfl rfl ?_
            refine ar_bipush (v := 10) (q := 72) rfl rfl rfl ?_
            refine ar_iload_n (j := 1) (q := 73) rfl rfl rfl rfl ?_
            refine ar_ib (i := .imul) (z := 10 * a) (q := 74) rfl rfl rfl rfl rfl ?_
            refine ar_iload_n (j := 2) (q := 75) rfl rfl rfl rfl ?_
            refine ar_ib (i := .iadd) (z := (10 * a) + b) (q := 76) rfl rfl rfl rfl rfl ?_
            refine ar_iload_n (j := 3) (q := 77) rfl rfl rfl rfl ?_
            obtain ⟨j_21, hx_22, hi_23, h⟩ := h
            obtain ⟨I_24, hI_25⟩ : ∃ z : Nat → Nat → Int32, z = va_up I_9 115 (upd (I_9 115) j_21 x) := ⟨_, rfl⟩
            have h := h I_24 hI_25
            refine ar_iast (hp2 := am_mk I_24 L_10) (q := 78) rfl mk_115 (am_inE hi_23 hx_22 (by decide)) (by rw [am_clT hi_23 hx_22 (by decide), hI_25]; exact mk_s115) rfl ?_
            refine ar_aload_n (j := 0) (q := 79) rfl rfl rfl rfl ?_
            refine ar_getf (v := .ref 115) (q := 82) rfl rfl mk_113 rfl rfl ?_
            refine ar_bipush (v := 10) (q := 84) rfl rfl rfl ?_
            refine ar_iload_n (j := 2) (q := 85) rfl rfl rfl rfl ?_
            refine ar_ib (i := .imul) (z := 10 * b) (q := 86) rfl rfl rfl rfl rfl ?_
            refine ar_iload_n (j := 1) (q := 87) rfl rfl rfl rfl ?_
            refine ar_ib (i := .iadd) (z := (10 * b) + a) (q := 88) rfl rfl rfl rfl rfl ?_
            refine ar_iload_n (j := 3) (q := 89) rfl rfl rfl rfl ?_
            obtain ⟨j_26, hx_27, hi_28, h⟩ := h
            obtain ⟨I_29, hI_30⟩ : ∃ z : Nat → Nat → Int32, z = va_up I_24 115 (upd (I_24 115) j_26 x) := ⟨_, rfl⟩
            have h := h I_29 hI_30
            refine ar_iast (hp2 := am_mk I_29 L_10) (q := 90) rfl mk_115 (am_inE hi_28 hx_27 (by decide)) (by rw [am_clT hi_28 hx_27 (by decide), hI_30]; exact mk_s115) rfl ?_
            refine ar_iload (q := 92) rfl rfl rfl ?_
            exact ar_iret rfl rfl h
          · have h := hB c_17
            clear hA hB
            refine ar_aload_n (j := 0) (q := 47) rfl rfl rfl rfl ?_
            refine ar_bipush (v := (-6 : Int32)) (q := 49) rfl rfl rfl ?_
            refine ar_invv (as := [.int (-6 : Int32)]) (rest := []) (b2 := (0, 0)) (b3 := (0, 0)) (q := 52) rfl rfl rfl rfl mk_113 rfl rfl rfl rfl rfl ?_
            refine am_meth_mono d _ _ _ _ _ (fun v9 m9 h9 => ?_) h
            obtain ⟨z_31, I_32, L_33, rfl, rfl, h⟩ := h9
            show am_Run am_X0 (am_meth d) 154 R 52 [some (.ref 113), some (.int a), some (.int b), some (.int x), none] [.int z_31] (am_mk I_32 L_33, 0, 0)
            exact ar_iret rfl rfl h
        · have h := hB c_16
          clear hA hB
          refine ar_aload_n (j := 0) (q := 33) rfl rfl rfl rfl ?_
          refine ar_bipush (v := (-4 : Int32)) (q := 35) rfl rfl rfl ?_
          refine ar_invv (as := [.int (-4 : Int32)]) (rest := []) (b2 := (0, 0)) (b3 := (0, 0)) (q := 38) rfl rfl rfl rfl mk_113 rfl rfl rfl rfl rfl ?_
          refine am_meth_mono d _ _ _ _ _ (fun v9 m9 h9 => ?_) h
          obtain ⟨z_34, I_35, L_36, rfl, rfl, h⟩ := h9
          show am_Run am_X0 (am_meth d) 154 R 38 [some (.ref 113), some (.int a), some (.int b), some (.int x), none] [.int z_34] (am_mk I_35 L_36, 0, 0)
          exact ar_iret rfl rfl h
      · have h := hB c_15
        clear hA hB
        refine ar_aload_n (j := 0) (q := 22) rfl rfl rfl rfl ?_
        refine ar_iconst (v := (-1 : Int32)) (q := 23) rfl rfl rfl ?_
        refine ar_invv (as := [.int (-1 : Int32)]) (rest := []) (b2 := (0, 0)) (b3 := (0, 0)) (q := 26) rfl rfl rfl rfl mk_113 rfl rfl rfl rfl rfl ?_
        refine am_meth_mono d _ _ _ _ _ (fun v9 m9 h9 => ?_) h
        obtain ⟨z_37, I_38, L_39, rfl, rfl, h⟩ := h9
        show am_Run am_X0 (am_meth d) 154 R 26 [some (.ref 113), some (.int a), some (.int b), some (.int x), none] [.int z_37] (am_mk I_38 L_39, 0, 0)
        exact ar_iret rfl rfl h
theorem r_M_limit_0 {d : Nat} {R : am_R} {I : Nat → Nat → Int32} {L : Nat → Nat → Int64} {l : Int32} {x : Int32} (h : ((l < 0 → (am_meth d 151 [.ref 113, .int (-1 : Int32)] (am_mk I L, 0, 0) (am_ri (fun z_2 I_3 L_4 => R (some (.int z_2)) (am_mk I_3 L_4, 0, 0))))) ∧ (¬ (l < 0) → (((l ≤ 4 → (((0 ≤ x → (((x ≤ 180 → (∃ j_8 : Nat, j_8 < 5 ∧ l = nI j_8 ∧ (∃ j_11 : Nat, j_11 < 5 ∧ l = nI j_11 ∧ (∀ I_14 : Nat → Nat → Int32, I_14 = va_up I 116 (upd (I 116) j_11 x) → (R (some (.int (I 116 j_8))) (am_mk I_14 L, 0, 0)))))) ∧ (¬ (x ≤ 180) → (am_meth d 151 [.ref 113, .int (-6 : Int32)] (am_mk I L, 0, 0) (am_ri (fun z_16 I_17 L_18 => R (some (.int z_16)) (am_mk I_17 L_18, 0, 0)))))))) ∧ (¬ (0 ≤ x) → (am_meth d 151 [.ref 113, .int (-4 : Int32)] (am_mk I L, 0, 0) (am_ri (fun z_19 I_20 L_21 => R (some (.int z_19)) (am_mk I_20 L_21, 0, 0)))))))) ∧ (¬ (l ≤ 4) → (am_meth d 151 [.ref 113, .int (-1 : Int32)] (am_mk I L, 0, 0) (am_ri (fun z_22 I_23 L_24 => R (some (.int z_22)) (am_mk I_23 L_24, 0, 0)))))))))) : am_Run am_X0 (am_meth d) 155 R 0 [some (.ref 113), some (.int l), some (.int x), none] [] (am_mk I L, 0, 0) := by
  refine ar_iload_n (j := 1) (q := 1) rfl rfl rfl rfl ?_
  obtain ⟨hA, hB⟩ := h
  refine ar_b0 am_c_lt (t := 9) (q := 4) rfl rfl rfl (fun c_1 => ?_) (fun c_1 => ?_)
  · have h := hA c_1
    clear hA hB
    refine ar_aload_n (j := 0) (q := 10) rfl rfl rfl rfl ?_
    refine ar_iconst (v := (-1 : Int32)) (q := 11) rfl rfl rfl ?_
    refine ar_invv (as := [.int (-1 : Int32)]) (rest := []) (b2 := (0, 0)) (b3 := (0, 0)) (q := 14) rfl rfl rfl rfl mk_113 rfl rfl rfl rfl rfl ?_
    refine am_meth_mono d _ _ _ _ _ (fun v9 m9 h9 => ?_) h
    obtain ⟨z_2, I_3, L_4, rfl, rfl, h⟩ := h9
    show am_Run am_X0 (am_meth d) 155 R 14 [some (.ref 113), some (.int l), some (.int x), none] [.int z_2] (am_mk I_3 L_4, 0, 0)
    exact ar_iret rfl rfl h
  · have h := hB c_1
    clear hA hB
    refine ar_iload_n (j := 1) (q := 5) rfl rfl rfl rfl ?_
    refine ar_iconst (v := 4) (q := 6) rfl rfl rfl ?_
    obtain ⟨hA, hB⟩ := h
    refine ar_br am_c_le (t := 15) (q := 9) rfl rfl rfl (fun c_5 => ?_) (fun c_5 => ?_)
    · have h := hA c_5
      clear hA hB
      refine ar_iload_n (j := 2) (q := 16) rfl rfl rfl rfl ?_
      obtain ⟨hA, hB⟩ := h
      refine ar_b0 am_c_ge (t := 26) (q := 19) rfl rfl rfl (fun c_6 => ?_) (fun c_6 => ?_)
      · have h := hA c_6
        clear hA hB
        refine ar_iload_n (j := 2) (q := 27) rfl rfl rfl rfl ?_
        refine ar_sipush (v := 180) (q := 30) rfl rfl rfl ?_
        obtain ⟨hA, hB⟩ := h
        refine ar_br am_c_le (t := 40) (q := 33) rfl rfl rfl (fun c_7 => ?_) (fun c_7 => ?_)
        · have h := hA c_7
          clear hA hB
          refine ar_aload_n (j := 0) (q := 41) rfl rfl rfl rfl ?_
          refine ar_getf (v := .ref 116) (q := 44) rfl rfl mk_113 rfl rfl ?_
          refine ar_iload_n (j := 1) (q := 45) rfl rfl rfl rfl ?_
          obtain ⟨j_8, hx_9, hi_10, h⟩ := h
          refine ar_iald (v := I 116 j_8) (q := 46) rfl mk_116 (am_inE hi_10 hx_9 (by decide)) (am_clE hi_10 hx_9 (by decide)) rfl ?_
          refine ar_istore_n (j := 3) (ls' := [some (.ref 113), some (.int l), some (.int x), some (.int (I 116 j_8))]) (q := 47) rfl rfl rfl rfl rfl ?_
          refine ar_aload_n (j := 0) (q := 48) rfl rfl rfl rfl ?_
          refine ar_getf (v := .ref 116) (q := 51) rfl rfl mk_113 rfl rfl ?_
          refine ar_iload_n (j := 1) (q := 52) rfl rfl rfl rfl ?_
          refine ar_iload_n (j := 2) (q := 53) rfl rfl rfl rfl ?_
          obtain ⟨j_11, hx_12, hi_13, h⟩ := h
          obtain ⟨I_14, hI_15⟩ : ∃ z : Nat → Nat → Int32, z = va_up I 116 (upd (I 116) j_11 x) := ⟨_, rfl⟩
          have h := h I_14 hI_15
          refine ar_iast (hp2 := am_mk I_14 L) (q := 54) rfl mk_116 (am_inE hi_13 hx_12 (by decide)) (by rw [am_clT hi_13 hx_12 (by decide), hI_15]; exact mk_s116) rfl ?_
          refine ar_iload_n (j := 3) (q := 55) rfl rfl rfl rfl ?_
          exact ar_iret rfl rfl h
        · have h := hB c_7
          clear hA hB
          refine ar_aload_n (j := 0) (q := 34) rfl rfl rfl rfl ?_
          refine ar_bipush (v := (-6 : Int32)) (q := 36) rfl rfl rfl ?_
          refine ar_invv (as := [.int (-6 : Int32)]) (rest := []) (b2 := (0, 0)) (b3 := (0, 0)) (q := 39) rfl rfl rfl rfl mk_113 rfl rfl rfl rfl rfl ?_
          refine am_meth_mono d _ _ _ _ _ (fun v9 m9 h9 => ?_) h
          obtain ⟨z_16, I_17, L_18, rfl, rfl, h⟩ := h9
          show am_Run am_X0 (am_meth d) 155 R 39 [some (.ref 113), some (.int l), some (.int x), none] [.int z_16] (am_mk I_17 L_18, 0, 0)
          exact ar_iret rfl rfl h
      · have h := hB c_6
        clear hA hB
        refine ar_aload_n (j := 0) (q := 20) rfl rfl rfl rfl ?_
        refine ar_bipush (v := (-4 : Int32)) (q := 22) rfl rfl rfl ?_
        refine ar_invv (as := [.int (-4 : Int32)]) (rest := []) (b2 := (0, 0)) (b3 := (0, 0)) (q := 25) rfl rfl rfl rfl mk_113 rfl rfl rfl rfl rfl ?_
        refine am_meth_mono d _ _ _ _ _ (fun v9 m9 h9 => ?_) h
        obtain ⟨z_19, I_20, L_21, rfl, rfl, h⟩ := h9
        show am_Run am_X0 (am_meth d) 155 R 25 [some (.ref 113), some (.int l), some (.int x), none] [.int z_19] (am_mk I_20 L_21, 0, 0)
        exact ar_iret rfl rfl h
    · have h := hB c_5
      clear hA hB
      refine ar_aload_n (j := 0) (q := 10) rfl rfl rfl rfl ?_
      refine ar_iconst (v := (-1 : Int32)) (q := 11) rfl rfl rfl ?_
      refine ar_invv (as := [.int (-1 : Int32)]) (rest := []) (b2 := (0, 0)) (b3 := (0, 0)) (q := 14) rfl rfl rfl rfl mk_113 rfl rfl rfl rfl rfl ?_
      refine am_meth_mono d _ _ _ _ _ (fun v9 m9 h9 => ?_) h
      obtain ⟨z_22, I_23, L_24, rfl, rfl, h⟩ := h9
      show am_Run am_X0 (am_meth d) 155 R 14 [some (.ref 113), some (.int l), some (.int x), none] [.int z_22] (am_mk I_23 L_24, 0, 0)
      exact ar_iret rfl rfl h
theorem r_M_keeper_0 {d : Nat} {R : am_R} {I : Nat → Nat → Int32} {L : Nat → Nat → Int64} {t : Int32} {b : Int32} {p : Int32} {m : Int32} (h : am_meth d 153 [.ref 113, .int t] (am_mk I L, 0, 0) (am_ri (fun z_1 I_2 L_3 => ((¬ z_1 = 0 → (((b < 0 → (am_meth d 151 [.ref 113, .int (-4 : Int32)] (am_mk I_2 L_3, 0, 0) (am_ri (fun z_6 I_7 L_8 => R (some (.int z_6)) (am_mk I_7 L_8, 0, 0))))) ∧ (¬ (b < 0) → (((p < 1 → (am_meth d 151 [.ref 113, .int (-4 : Int32)] (am_mk I_2 L_3, 0, 0) (am_ri (fun z_10 I_11 L_12 => R (some (.int z_10)) (am_mk I_11 L_12, 0, 0))))) ∧ (¬ (p < 1) → (((0 ≤ m → (((255 < b → (am_meth d 151 [.ref 113, .int (-6 : Int32)] (am_mk I_2 L_3, 0, 0) (am_ri (fun z_15 I_16 L_17 => R (some (.int z_15)) (am_mk I_16 L_17, 0, 0))))) ∧ (¬ (255 < b) → (((2 < p → (am_meth d 151 [.ref 113, .int (-6 : Int32)] (am_mk I_2 L_3, 0, 0) (am_ri (fun z_19 I_20 L_21 => R (some (.int z_19)) (am_mk I_20 L_21, 0, 0))))) ∧ (¬ (2 < p) → (((99999 < m → (am_meth d 151 [.ref 113, .int (-6 : Int32)] (am_mk I_2 L_3, 0, 0) (am_ri (fun z_23 I_24 L_25 => R (some (.int z_23)) (am_mk I_24 L_25, 0, 0))))) ∧ (¬ (99999 < m) → (((¬ (I_2 113 4) = 20 → (∃ j_27 : Nat, j_27 < 20 ∧ I_2 113 4 = nI j_27 ∧ (∀ I_30 : Nat → Nat → Int32, I_30 = va_up I_2 117 (upd (I_2 117) j_27 t) → (∃ j_32 : Nat, j_32 < 20 ∧ I_30 113 4 = nI j_32 ∧ (∀ I_35 : Nat → Nat → Int32, I_35 = va_up I_30 118 (upd (I_30 118) j_32 b) → (∃ j_37 : Nat, j_37 < 20 ∧ I_35 113 4 = nI j_37 ∧ (∀ I_40 : Nat → Nat → Int32, I_40 = va_up I_35 119 (upd (I_35 119) j_37 p) → (∃ j_42 : Nat, j_42 < 20 ∧ I_40 113 4 = nI j_42 ∧ (∀ I_45 : Nat → Nat → Int32, I_45 = va_up I_40 120 (upd (I_40 120) j_42 m) → (∀ I_47 : Nat → Nat → Int32, I_47 = va_up I_45 113 (upd (I_45 113) 4 ((I_45 113 4) + 1)) → (R (some (.int ((I_47 113 4) - 1))) (am_mk I_47 L_3, 0, 0)))))))))))) ∧ (¬ (¬ (I_2 113 4) = 20) → (am_meth d 151 [.ref 113, .int (-6 : Int32)] (am_mk I_2 L_3, 0, 0) (am_ri (fun z_49 I_50 L_51 => R (some (.int z_49)) (am_mk I_50 L_51, 0, 0))))))))))))))))) ∧ (¬ (0 ≤ m) → (am_meth d 151 [.ref 113, .int (-4 : Int32)] (am_mk I_2 L_3, 0, 0) (am_ri (fun z_52 I_53 L_54 => R (some (.int z_52)) (am_mk I_53 L_54, 0, 0)))))))))))))) ∧ (¬ (¬ z_1 = 0) → (am_meth d 151 [.ref 113, .int (-1 : Int32)] (am_mk I_2 L_3, 0, 0) (am_ri (fun z_55 I_56 L_57 => R (some (.int z_55)) (am_mk I_56 L_57, 0, 0))))))))) : am_Run am_X0 (am_meth d) 156 R 0 [some (.ref 113), some (.int t), some (.int b), some (.int p), some (.int m)] [] (am_mk I L, 0, 0) := by
  refine ar_aload_n (j := 0) (q := 1) rfl rfl rfl rfl ?_
  refine ar_iload_n (j := 1) (q := 2) rfl rfl rfl rfl ?_
  refine ar_invv (as := [.int t]) (rest := []) (b2 := (0, 0)) (b3 := (0, 0)) (q := 5) rfl rfl rfl rfl mk_113 rfl rfl rfl rfl rfl ?_
  refine am_meth_mono d _ _ _ _ _ (fun v9 m9 h9 => ?_) h
  obtain ⟨z_1, I_2, L_3, rfl, rfl, h⟩ := h9
  show am_Run am_X0 (am_meth d) 156 R 5 [some (.ref 113), some (.int t), some (.int b), some (.int p), some (.int m)] [.int z_1] (am_mk I_2 L_3, 0, 0)
  obtain ⟨hA, hB⟩ := h
  refine ar_b0 am_c_ne (t := 14) (q := 8) rfl rfl rfl (fun c_4 => ?_) (fun c_4 => ?_)
  · have h := hA c_4
    clear hA hB
    refine ar_iload_n (j := 2) (q := 15) rfl rfl rfl rfl ?_
    obtain ⟨hA, hB⟩ := h
    refine ar_b0 am_c_lt (t := 28) (q := 18) rfl rfl rfl (fun c_5 => ?_) (fun c_5 => ?_)
    · have h := hA c_5
      clear hA hB
      refine ar_aload_n (j := 0) (q := 29) rfl rfl rfl rfl ?_
      refine ar_bipush (v := (-4 : Int32)) (q := 31) rfl rfl rfl ?_
      refine ar_invv (as := [.int (-4 : Int32)]) (rest := []) (b2 := (0, 0)) (b3 := (0, 0)) (q := 34) rfl rfl rfl rfl mk_113 rfl rfl rfl rfl rfl ?_
      refine am_meth_mono d _ _ _ _ _ (fun v9 m9 h9 => ?_) h
      obtain ⟨z_6, I_7, L_8, rfl, rfl, h⟩ := h9
      show am_Run am_X0 (am_meth d) 156 R 34 [some (.ref 113), some (.int t), some (.int b), some (.int p), some (.int m)] [.int z_6] (am_mk I_7 L_8, 0, 0)
      exact ar_iret rfl rfl h
    · have h := hB c_5
      clear hA hB
      refine ar_iload_n (j := 3) (q := 19) rfl rfl rfl rfl ?_
      refine ar_iconst (v := 1) (q := 20) rfl rfl rfl ?_
      obtain ⟨hA, hB⟩ := h
      refine ar_br am_c_lt (t := 28) (q := 23) rfl rfl rfl (fun c_9 => ?_) (fun c_9 => ?_)
      · have h := hA c_9
        clear hA hB
        refine ar_aload_n (j := 0) (q := 29) rfl rfl rfl rfl ?_
        refine ar_bipush (v := (-4 : Int32)) (q := 31) rfl rfl rfl ?_
        refine ar_invv (as := [.int (-4 : Int32)]) (rest := []) (b2 := (0, 0)) (b3 := (0, 0)) (q := 34) rfl rfl rfl rfl mk_113 rfl rfl rfl rfl rfl ?_
        refine am_meth_mono d _ _ _ _ _ (fun v9 m9 h9 => ?_) h
        obtain ⟨z_10, I_11, L_12, rfl, rfl, h⟩ := h9
        show am_Run am_X0 (am_meth d) 156 R 34 [some (.ref 113), some (.int t), some (.int b), some (.int p), some (.int m)] [.int z_10] (am_mk I_11 L_12, 0, 0)
        exact ar_iret rfl rfl h
      · have h := hB c_9
        clear hA hB
        refine ar_iload (q := 25) rfl rfl rfl ?_
        obtain ⟨hA, hB⟩ := h
        refine ar_b0 am_c_ge (t := 35) (q := 28) rfl rfl rfl (fun c_13 => ?_) (fun c_13 => ?_)
        · have h := hA c_13
          clear hA hB
          refine ar_iload_n (j := 2) (q := 36) rfl rfl rfl rfl ?_
          refine ar_sipush (v := 255) (q := 39) rfl rfl rfl ?_
          obtain ⟨hA, hB⟩ := h
          refine ar_br am_c_gt (t := 63) (q := 42) rfl rfl rfl (fun c_14 => ?_) (fun c_14 => ?_)
          · have h := hA c_14
            clear hA hB
            refine ar_aload_n (j := 0) (q := 64) rfl rfl rfl rfl ?_
            refine ar_bipush (v := (-6 : Int32)) (q := 66) rfl rfl rfl ?_
            refine ar_invv (as := [.int (-6 : Int32)]) (rest := []) (b2 := (0, 0)) (b3 := (0, 0)) (q := 69) rfl rfl rfl rfl mk_113 rfl rfl rfl rfl rfl ?_
            refine am_meth_mono d _ _ _ _ _ (fun v9 m9 h9 => ?_) h
            obtain ⟨z_15, I_16, L_17, rfl, rfl, h⟩ := h9
            show am_Run am_X0 (am_meth d) 156 R 69 [some (.ref 113), some (.int t), some (.int b), some (.int p), some (.int m)] [.int z_15] (am_mk I_16 L_17, 0, 0)
            exact ar_iret rfl rfl h
          · have h := hB c_14
            clear hA hB
            refine ar_iload_n (j := 3) (q := 43) rfl rfl rfl rfl ?_
            refine ar_iconst (v := 2) (q := 44) rfl rfl rfl ?_
            obtain ⟨hA, hB⟩ := h
            refine ar_br am_c_gt (t := 63) (q := 47) rfl rfl rfl (fun c_18 => ?_) (fun c_18 => ?_)
            · have h := hA c_18
              clear hA hB
              refine ar_aload_n (j := 0) (q := 64) rfl rfl rfl rfl ?_
              refine ar_bipush (v := (-6 : Int32)) (q := 66) rfl rfl rfl ?_
              refine ar_invv (as := [.int (-6 : Int32)]) (rest := []) (b2 := (0, 0)) (b3 := (0, 0)) (q := 69) rfl rfl rfl rfl mk_113 rfl rfl rfl rfl rfl ?_
              refine am_meth_mono d _ _ _ _ _ (fun v9 m9 h9 => ?_) h
              obtain ⟨z_19, I_20, L_21, rfl, rfl, h⟩ := h9
              show am_Run am_X0 (am_meth d) 156 R 69 [some (.ref 113), some (.int t), some (.int b), some (.int p), some (.int m)] [.int z_19] (am_mk I_20 L_21, 0, 0)
              exact ar_iret rfl rfl h
            · have h := hB c_18
              clear hA hB
              refine ar_iload (q := 49) rfl rfl rfl ?_
              refine ar_ldc (v := 99999) (q := 51) rfl rfl rfl ?_
              obtain ⟨hA, hB⟩ := h
              refine ar_br am_c_gt (t := 63) (q := 54) rfl rfl rfl (fun c_22 => ?_) (fun c_22 => ?_)
              · have h := hA c_22
                clear hA hB
                refine ar_aload_n (j := 0) (q := 64) rfl rfl rfl rfl ?_
                refine ar_bipush (v := (-6 : Int32)) (q := 66) rfl rfl rfl ?_
                refine ar_invv (as := [.int (-6 : Int32)]) (rest := []) (b2 := (0, 0)) (b3 := (0, 0)) (q := 69) rfl rfl rfl rfl mk_113 rfl rfl rfl rfl rfl ?_
                refine am_meth_mono d _ _ _ _ _ (fun v9 m9 h9 => ?_) h
                obtain ⟨z_23, I_24, L_25, rfl, rfl, h⟩ := h9
                show am_Run am_X0 (am_meth d) 156 R 69 [some (.ref 113), some (.int t), some (.int b), some (.int p), some (.int m)] [.int z_23] (am_mk I_24 L_25, 0, 0)
                exact ar_iret rfl rfl h
              · have h := hB c_22
                clear hA hB
                refine ar_aload_n (j := 0) (q := 55) rfl rfl rfl rfl ?_
                refine ar_getf (v := .int (I_2 113 4)) (q := 58) rfl rfl mk_113 rfl rfl ?_
                refine ar_bipush (v := 20) (q := 60) rfl rfl rfl ?_
                obtain ⟨hA, hB⟩ := h
                refine ar_br am_c_ne (t := 70) (q := 63) rfl rfl rfl (fun c_26 => ?_) (fun c_26 => ?_)
                · have h := hA c_26
                  clear hA hB
                  refine ar_aload_n (j := 0) (q := 71) rfl rfl rfl rfl ?_
                  refine ar_getf (v := .ref 117) (q := 74) rfl rfl mk_113 rfl rfl ?_
                  refine ar_aload_n (j := 0) (q := 75) rfl rfl rfl rfl ?_
                  refine ar_getf (v := .int (I_2 113 4)) (q := 78) rfl rfl mk_113 rfl rfl ?_
                  refine ar_iload_n (j := 1) (q := 79) rfl rfl rfl rfl ?_
                  obtain ⟨j_27, hx_28, hi_29, h⟩ := h
                  obtain ⟨I_30, hI_31⟩ : ∃ z : Nat → Nat → Int32, z = va_up I_2 117 (upd (I_2 117) j_27 t) := ⟨_, rfl⟩
                  have h := h I_30 hI_31
                  refine ar_iast (hp2 := am_mk I_30 L_3) (q := 80) rfl mk_117 (am_inE hi_29 hx_28 (by decide)) (by rw [am_clT hi_29 hx_28 (by decide), hI_31]; exact mk_s117) rfl ?_
                  refine ar_aload_n (j := 0) (q := 81) rfl rfl rfl rfl ?_
                  refine ar_getf (v := .ref 118) (q := 84) rfl rfl mk_113 rfl rfl ?_
                  refine ar_aload_n (j := 0) (q := 85) rfl rfl rfl rfl ?_
                  refine ar_getf (v := .int (I_30 113 4)) (q := 88) rfl rfl mk_113 rfl rfl ?_
                  refine ar_iload_n (j := 2) (q := 89) rfl rfl rfl rfl ?_
                  obtain ⟨j_32, hx_33, hi_34, h⟩ := h
                  obtain ⟨I_35, hI_36⟩ : ∃ z : Nat → Nat → Int32, z = va_up I_30 118 (upd (I_30 118) j_32 b) := ⟨_, rfl⟩
                  have h := h I_35 hI_36
                  refine ar_iast (hp2 := am_mk I_35 L_3) (q := 90) rfl mk_118 (am_inE hi_34 hx_33 (by decide)) (by rw [am_clT hi_34 hx_33 (by decide), hI_36]; exact mk_s118) rfl ?_
                  refine ar_aload_n (j := 0) (q := 91) rfl rfl rfl rfl ?_
                  refine ar_getf (v := .ref 119) (q := 94) rfl rfl mk_113 rfl rfl ?_
                  refine ar_aload_n (j := 0) (q := 95) rfl rfl rfl rfl ?_
                  refine ar_getf (v := .int (I_35 113 4)) (q := 98) rfl rfl mk_113 rfl rfl ?_
                  refine ar_iload_n (j := 3) (q := 99) rfl rfl rfl rfl ?_
                  obtain ⟨j_37, hx_38, hi_39, h⟩ := h
                  obtain ⟨I_40, hI_41⟩ : ∃ z : Nat → Nat → Int32, z = va_up I_35 119 (upd (I_35 119) j_37 p) := ⟨_, rfl⟩
                  have h := h I_40 hI_41
                  refine ar_iast (hp2 := am_mk I_40 L_3) (q := 100) rfl mk_119 (am_inE hi_39 hx_38 (by decide)) (by rw [am_clT hi_39 hx_38 (by decide), hI_41]; exact mk_s119) rfl ?_
                  refine ar_aload_n (j := 0) (q := 101) rfl rfl rfl rfl ?_
                  refine ar_getf (v := .ref 120) (q := 104) rfl rfl mk_113 rfl rfl ?_
                  refine ar_aload_n (j := 0) (q := 105) rfl rfl rfl rfl ?_
                  refine ar_getf (v := .int (I_40 113 4)) (q := 108) rfl rfl mk_113 rfl rfl ?_
                  refine ar_iload (q := 110) rfl rfl rfl ?_
                  obtain ⟨j_42, hx_43, hi_44, h⟩ := h
                  obtain ⟨I_45, hI_46⟩ : ∃ z : Nat → Nat → Int32, z = va_up I_40 120 (upd (I_40 120) j_42 m) := ⟨_, rfl⟩
                  have h := h I_45 hI_46
                  refine ar_iast (hp2 := am_mk I_45 L_3) (q := 111) rfl mk_120 (am_inE hi_44 hx_43 (by decide)) (by rw [am_clT hi_44 hx_43 (by decide), hI_46]; exact mk_s120) rfl ?_
                  refine ar_aload_n (j := 0) (q := 112) rfl rfl rfl rfl ?_
                  refine ar_st (i := .dup) (n := 1) (st' := [.ref 113, .ref 113]) (q := 113) rfl rfl rfl rfl ?_
                  refine ar_getf (v := .int (I_45 113 4)) (q := 116) rfl rfl mk_113 rfl rfl ?_
                  refine ar_iconst (v := 1) (q := 117) rfl rfl rfl ?_
                  refine ar_ib (i := .iadd) (z := (I_45 113 4) + 1) (q := 118) rfl rfl rfl rfl rfl ?_
                  obtain ⟨I_47, hI_48⟩ : ∃ z : Nat → Nat → Int32, z = va_up I_45 113 (upd (I_45 113) 4 ((I_45 113 4) + 1)) := ⟨_, rfl⟩
                  have h := h I_47 hI_48
                  refine ar_putf (hp2 := am_mk I_47 L_3) (q := 121) rfl rfl mk_113 rfl (by rw [hI_48]; exact mk_p113_4) rfl ?_
                  refine ar_aload_n (j := 0) (q := 122) rfl rfl rfl rfl ?_
                  refine ar_getf (v := .int (I_47 113 4)) (q := 125) rfl rfl mk_113 rfl rfl ?_
                  refine ar_iconst (v := 1) (q := 126) rfl rfl rfl ?_
                  refine ar_ib (i := .isub) (z := (I_47 113 4) - 1) (q := 127) rfl rfl rfl rfl rfl ?_
                  exact ar_iret rfl rfl h
                · have h := hB c_26
                  clear hA hB
                  refine ar_aload_n (j := 0) (q := 64) rfl rfl rfl rfl ?_
                  refine ar_bipush (v := (-6 : Int32)) (q := 66) rfl rfl rfl ?_
                  refine ar_invv (as := [.int (-6 : Int32)]) (rest := []) (b2 := (0, 0)) (b3 := (0, 0)) (q := 69) rfl rfl rfl rfl mk_113 rfl rfl rfl rfl rfl ?_
                  refine am_meth_mono d _ _ _ _ _ (fun v9 m9 h9 => ?_) h
                  obtain ⟨z_49, I_50, L_51, rfl, rfl, h⟩ := h9
                  show am_Run am_X0 (am_meth d) 156 R 69 [some (.ref 113), some (.int t), some (.int b), some (.int p), some (.int m)] [.int z_49] (am_mk I_50 L_51, 0, 0)
                  exact ar_iret rfl rfl h
        · have h := hB c_13
          clear hA hB
          refine ar_aload_n (j := 0) (q := 29) rfl rfl rfl rfl ?_
          refine ar_bipush (v := (-4 : Int32)) (q := 31) rfl rfl rfl ?_
          refine ar_invv (as := [.int (-4 : Int32)]) (rest := []) (b2 := (0, 0)) (b3 := (0, 0)) (q := 34) rfl rfl rfl rfl mk_113 rfl rfl rfl rfl rfl ?_
          refine am_meth_mono d _ _ _ _ _ (fun v9 m9 h9 => ?_) h
          obtain ⟨z_52, I_53, L_54, rfl, rfl, h⟩ := h9
          show am_Run am_X0 (am_meth d) 156 R 34 [some (.ref 113), some (.int t), some (.int b), some (.int p), some (.int m)] [.int z_52] (am_mk I_53 L_54, 0, 0)
          exact ar_iret rfl rfl h
  · have h := hB c_4
    clear hA hB
    refine ar_aload_n (j := 0) (q := 9) rfl rfl rfl rfl ?_
    refine ar_iconst (v := (-1 : Int32)) (q := 10) rfl rfl rfl ?_
    refine ar_invv (as := [.int (-1 : Int32)]) (rest := []) (b2 := (0, 0)) (b3 := (0, 0)) (q := 13) rfl rfl rfl rfl mk_113 rfl rfl rfl rfl rfl ?_
    refine am_meth_mono d _ _ _ _ _ (fun v9 m9 h9 => ?_) h
    obtain ⟨z_55, I_56, L_57, rfl, rfl, h⟩ := h9
    show am_Run am_X0 (am_meth d) 156 R 13 [some (.ref 113), some (.int t), some (.int b), some (.int p), some (.int m)] [.int z_55] (am_mk I_56 L_57, 0, 0)
    exact ar_iret rfl rfl h
theorem r_M_house_0 {d : Nat} {R : am_R} {I : Nat → Nat → Int32} {L : Nat → Nat → Int64} {t : Int32} {b : Int32} (h : am_meth d 153 [.ref 113, .int t] (am_mk I L, 0, 0) (am_ri (fun z_1 I_2 L_3 => ((¬ z_1 = 0 → (((0 ≤ b → (((255 < b → (am_meth d 151 [.ref 113, .int (-6 : Int32)] (am_mk I_2 L_3, 0, 0) (am_ri (fun z_7 I_8 L_9 => R (some (.int z_7)) (am_mk I_8 L_9, 0, 0))))) ∧ (¬ (255 < b) → (((¬ (I_2 113 10) = 20 → (∃ j_11 : Nat, j_11 < 20 ∧ I_2 113 10 = nI j_11 ∧ (∀ I_14 : Nat → Nat → Int32, I_14 = va_up I_2 122 (upd (I_2 122) j_11 t) → (∃ j_16 : Nat, j_16 < 20 ∧ I_14 113 10 = nI j_16 ∧ (∀ I_19 : Nat → Nat → Int32, I_19 = va_up I_14 123 (upd (I_14 123) j_16 b) → (∀ I_21 : Nat → Nat → Int32, I_21 = va_up I_19 113 (upd (I_19 113) 10 ((I_19 113 10) + 1)) → (R (some (.int ((I_21 113 10) - 1))) (am_mk I_21 L_3, 0, 0)))))))) ∧ (¬ (¬ (I_2 113 10) = 20) → (am_meth d 151 [.ref 113, .int (-6 : Int32)] (am_mk I_2 L_3, 0, 0) (am_ri (fun z_23 I_24 L_25 => R (some (.int z_23)) (am_mk I_24 L_25, 0, 0))))))))))) ∧ (¬ (0 ≤ b) → (am_meth d 151 [.ref 113, .int (-4 : Int32)] (am_mk I_2 L_3, 0, 0) (am_ri (fun z_26 I_27 L_28 => R (some (.int z_26)) (am_mk I_27 L_28, 0, 0)))))))) ∧ (¬ (¬ z_1 = 0) → (am_meth d 151 [.ref 113, .int (-1 : Int32)] (am_mk I_2 L_3, 0, 0) (am_ri (fun z_29 I_30 L_31 => R (some (.int z_29)) (am_mk I_30 L_31, 0, 0))))))))) : am_Run am_X0 (am_meth d) 157 R 0 [some (.ref 113), some (.int t), some (.int b)] [] (am_mk I L, 0, 0) := by
  refine ar_aload_n (j := 0) (q := 1) rfl rfl rfl rfl ?_
  refine ar_iload_n (j := 1) (q := 2) rfl rfl rfl rfl ?_
  refine ar_invv (as := [.int t]) (rest := []) (b2 := (0, 0)) (b3 := (0, 0)) (q := 5) rfl rfl rfl rfl mk_113 rfl rfl rfl rfl rfl ?_
  refine am_meth_mono d _ _ _ _ _ (fun v9 m9 h9 => ?_) h
  obtain ⟨z_1, I_2, L_3, rfl, rfl, h⟩ := h9
  show am_Run am_X0 (am_meth d) 157 R 5 [some (.ref 113), some (.int t), some (.int b)] [.int z_1] (am_mk I_2 L_3, 0, 0)
  obtain ⟨hA, hB⟩ := h
  refine ar_b0 am_c_ne (t := 14) (q := 8) rfl rfl rfl (fun c_4 => ?_) (fun c_4 => ?_)
  · have h := hA c_4
    clear hA hB
    refine ar_iload_n (j := 2) (q := 15) rfl rfl rfl rfl ?_
    obtain ⟨hA, hB⟩ := h
    refine ar_b0 am_c_ge (t := 25) (q := 18) rfl rfl rfl (fun c_5 => ?_) (fun c_5 => ?_)
    · have h := hA c_5
      clear hA hB
      refine ar_iload_n (j := 2) (q := 26) rfl rfl rfl rfl ?_
      refine ar_sipush (v := 255) (q := 29) rfl rfl rfl ?_
      obtain ⟨hA, hB⟩ := h
      refine ar_br am_c_gt (t := 41) (q := 32) rfl rfl rfl (fun c_6 => ?_) (fun c_6 => ?_)
      · have h := hA c_6
        clear hA hB
        refine ar_aload_n (j := 0) (q := 42) rfl rfl rfl rfl ?_
        refine ar_bipush (v := (-6 : Int32)) (q := 44) rfl rfl rfl ?_
        refine ar_invv (as := [.int (-6 : Int32)]) (rest := []) (b2 := (0, 0)) (b3 := (0, 0)) (q := 47) rfl rfl rfl rfl mk_113 rfl rfl rfl rfl rfl ?_
        refine am_meth_mono d _ _ _ _ _ (fun v9 m9 h9 => ?_) h
        obtain ⟨z_7, I_8, L_9, rfl, rfl, h⟩ := h9
        show am_Run am_X0 (am_meth d) 157 R 47 [some (.ref 113), some (.int t), some (.int b)] [.int z_7] (am_mk I_8 L_9, 0, 0)
        exact ar_iret rfl rfl h
      · have h := hB c_6
        clear hA hB
        refine ar_aload_n (j := 0) (q := 33) rfl rfl rfl rfl ?_
        refine ar_getf (v := .int (I_2 113 10)) (q := 36) rfl rfl mk_113 rfl rfl ?_
        refine ar_bipush (v := 20) (q := 38) rfl rfl rfl ?_
        obtain ⟨hA, hB⟩ := h
        refine ar_br am_c_ne (t := 48) (q := 41) rfl rfl rfl (fun c_10 => ?_) (fun c_10 => ?_)
        · have h := hA c_10
          clear hA hB
          refine ar_aload_n (j := 0) (q := 49) rfl rfl rfl rfl ?_
          refine ar_getf (v := .ref 122) (q := 52) rfl rfl mk_113 rfl rfl ?_
          refine ar_aload_n (j := 0) (q := 53) rfl rfl rfl rfl ?_
          refine ar_getf (v := .int (I_2 113 10)) (q := 56) rfl rfl mk_113 rfl rfl ?_
          refine ar_iload_n (j := 1) (q := 57) rfl rfl rfl rfl ?_
          obtain ⟨j_11, hx_12, hi_13, h⟩ := h
          obtain ⟨I_14, hI_15⟩ : ∃ z : Nat → Nat → Int32, z = va_up I_2 122 (upd (I_2 122) j_11 t) := ⟨_, rfl⟩
          have h := h I_14 hI_15
          refine ar_iast (hp2 := am_mk I_14 L_3) (q := 58) rfl mk_122 (am_inE hi_13 hx_12 (by decide)) (by rw [am_clT hi_13 hx_12 (by decide), hI_15]; exact mk_s122) rfl ?_
          refine ar_aload_n (j := 0) (q := 59) rfl rfl rfl rfl ?_
          refine ar_getf (v := .ref 123) (q := 62) rfl rfl mk_113 rfl rfl ?_
          refine ar_aload_n (j := 0) (q := 63) rfl rfl rfl rfl ?_
          refine ar_getf (v := .int (I_14 113 10)) (q := 66) rfl rfl mk_113 rfl rfl ?_
          refine ar_iload_n (j := 2) (q := 67) rfl rfl rfl rfl ?_
          obtain ⟨j_16, hx_17, hi_18, h⟩ := h
          obtain ⟨I_19, hI_20⟩ : ∃ z : Nat → Nat → Int32, z = va_up I_14 123 (upd (I_14 123) j_16 b) := ⟨_, rfl⟩
          have h := h I_19 hI_20
          refine ar_iast (hp2 := am_mk I_19 L_3) (q := 68) rfl mk_123 (am_inE hi_18 hx_17 (by decide)) (by rw [am_clT hi_18 hx_17 (by decide), hI_20]; exact mk_s123) rfl ?_
          refine ar_aload_n (j := 0) (q := 69) rfl rfl rfl rfl ?_
          refine ar_st (i := .dup) (n := 1) (st' := [.ref 113, .ref 113]) (q := 70) rfl rfl rfl rfl ?_
          refine ar_getf (v := .int (I_19 113 10)) (q := 73) rfl rfl mk_113 rfl rfl ?_
          refine ar_iconst (v := 1) (q := 74) rfl rfl rfl ?_
          refine ar_ib (i := .iadd) (z := (I_19 113 10) + 1) (q := 75) rfl rfl rfl rfl rfl ?_
          obtain ⟨I_21, hI_22⟩ : ∃ z : Nat → Nat → Int32, z = va_up I_19 113 (upd (I_19 113) 10 ((I_19 113 10) + 1)) := ⟨_, rfl⟩
          have h := h I_21 hI_22
          refine ar_putf (hp2 := am_mk I_21 L_3) (q := 78) rfl rfl mk_113 rfl (by rw [hI_22]; exact mk_p113_10) rfl ?_
          refine ar_aload_n (j := 0) (q := 79) rfl rfl rfl rfl ?_
          refine ar_getf (v := .int (I_21 113 10)) (q := 82) rfl rfl mk_113 rfl rfl ?_
          refine ar_iconst (v := 1) (q := 83) rfl rfl rfl ?_
          refine ar_ib (i := .isub) (z := (I_21 113 10) - 1) (q := 84) rfl rfl rfl rfl rfl ?_
          exact ar_iret rfl rfl h
        · have h := hB c_10
          clear hA hB
          refine ar_aload_n (j := 0) (q := 42) rfl rfl rfl rfl ?_
          refine ar_bipush (v := (-6 : Int32)) (q := 44) rfl rfl rfl ?_
          refine ar_invv (as := [.int (-6 : Int32)]) (rest := []) (b2 := (0, 0)) (b3 := (0, 0)) (q := 47) rfl rfl rfl rfl mk_113 rfl rfl rfl rfl rfl ?_
          refine am_meth_mono d _ _ _ _ _ (fun v9 m9 h9 => ?_) h
          obtain ⟨z_23, I_24, L_25, rfl, rfl, h⟩ := h9
          show am_Run am_X0 (am_meth d) 157 R 47 [some (.ref 113), some (.int t), some (.int b)] [.int z_23] (am_mk I_24 L_25, 0, 0)
          exact ar_iret rfl rfl h
    · have h := hB c_5
      clear hA hB
      refine ar_aload_n (j := 0) (q := 19) rfl rfl rfl rfl ?_
      refine ar_bipush (v := (-4 : Int32)) (q := 21) rfl rfl rfl ?_
      refine ar_invv (as := [.int (-4 : Int32)]) (rest := []) (b2 := (0, 0)) (b3 := (0, 0)) (q := 24) rfl rfl rfl rfl mk_113 rfl rfl rfl rfl rfl ?_
      refine am_meth_mono d _ _ _ _ _ (fun v9 m9 h9 => ?_) h
      obtain ⟨z_26, I_27, L_28, rfl, rfl, h⟩ := h9
      show am_Run am_X0 (am_meth d) 157 R 24 [some (.ref 113), some (.int t), some (.int b)] [.int z_26] (am_mk I_27 L_28, 0, 0)
      exact ar_iret rfl rfl h
  · have h := hB c_4
    clear hA hB
    refine ar_aload_n (j := 0) (q := 9) rfl rfl rfl rfl ?_
    refine ar_iconst (v := (-1 : Int32)) (q := 10) rfl rfl rfl ?_
    refine ar_invv (as := [.int (-1 : Int32)]) (rest := []) (b2 := (0, 0)) (b3 := (0, 0)) (q := 13) rfl rfl rfl rfl mk_113 rfl rfl rfl rfl rfl ?_
    refine am_meth_mono d _ _ _ _ _ (fun v9 m9 h9 => ?_) h
    obtain ⟨z_29, I_30, L_31, rfl, rfl, h⟩ := h9
    show am_Run am_X0 (am_meth d) 157 R 13 [some (.ref 113), some (.int t), some (.int b)] [.int z_29] (am_mk I_30 L_31, 0, 0)
    exact ar_iret rfl rfl h
theorem r_M_stayOf_0 {d : Nat} {R : am_R} {I : Nat → Nat → Int32} {L : Nat → Nat → Int64} {s : Int32} {w : Int32} (h : am_meth d 161 [.ref 113, .int s] (am_mk I L, 0, 0) (am_ri (fun z_1 I_2 L_3 => ((¬ z_1 = 0 → (((w < 0 → (am_meth d 151 [.ref 113, .int (-2 : Int32)] (am_mk I_2 L_3, 0, 0) (am_ri (fun z_6 I_7 L_8 => R (some (.int z_6)) (am_mk I_7 L_8, 0, 0))))) ∧ (¬ (w < 0) → (((w ≤ 5 → (((¬ w = 0 → (((¬ w = 1 → (((¬ w = 2 → (((¬ w = 3 → (((¬ w = 4 → (am_meth d 162 [.ref 113, .int s] (am_mk I_2 L_3, 0, 0) (am_ri (fun z_15 I_16 L_17 => ((z_15 = 0 → (R (some (.int 0)) (am_mk I_16 L_17, 0, 0))) ∧ (¬ (z_15 = 0) → (R (some (.int 1)) (am_mk I_16 L_17, 0, 0)))))))) ∧ (¬ (¬ w = 4) → (∃ j_19 : Nat, j_19 < 60 ∧ s = nI j_19 ∧ (R (some (.int (I_2 129 j_19))) (am_mk I_2 L_3, 0, 0))))))) ∧ (¬ (¬ w = 3) → (∃ j_22 : Nat, j_22 < 60 ∧ s = nI j_22 ∧ (R (some (.int (I_2 128 j_22))) (am_mk I_2 L_3, 0, 0))))))) ∧ (¬ (¬ w = 2) → (∃ j_25 : Nat, j_25 < 60 ∧ s = nI j_25 ∧ (R (some (.int (I_2 127 j_25))) (am_mk I_2 L_3, 0, 0))))))) ∧ (¬ (¬ w = 1) → (∃ j_28 : Nat, j_28 < 60 ∧ s = nI j_28 ∧ (R (some (.int (I_2 126 j_28))) (am_mk I_2 L_3, 0, 0))))))) ∧ (¬ (¬ w = 0) → (∃ j_31 : Nat, j_31 < 60 ∧ s = nI j_31 ∧ (R (some (.int (I_2 125 j_31))) (am_mk I_2 L_3, 0, 0))))))) ∧ (¬ (w ≤ 5) → (am_meth d 151 [.ref 113, .int (-2 : Int32)] (am_mk I_2 L_3, 0, 0) (am_ri (fun z_34 I_35 L_36 => R (some (.int z_34)) (am_mk I_35 L_36, 0, 0))))))))))) ∧ (¬ (¬ z_1 = 0) → (am_meth d 151 [.ref 113, .int (-1 : Int32)] (am_mk I_2 L_3, 0, 0) (am_ri (fun z_37 I_38 L_39 => R (some (.int z_37)) (am_mk I_38 L_39, 0, 0))))))))) : am_Run am_X0 (am_meth d) 160 R 0 [some (.ref 113), some (.int s), some (.int w)] [] (am_mk I L, 0, 0) := by
  refine ar_aload_n (j := 0) (q := 1) rfl rfl rfl rfl ?_
  refine ar_iload_n (j := 1) (q := 2) rfl rfl rfl rfl ?_
  refine ar_invv (as := [.int s]) (rest := []) (b2 := (0, 0)) (b3 := (0, 0)) (q := 5) rfl rfl rfl rfl mk_113 rfl rfl rfl rfl rfl ?_
  refine am_meth_mono d _ _ _ _ _ (fun v9 m9 h9 => ?_) h
  obtain ⟨z_1, I_2, L_3, rfl, rfl, h⟩ := h9
  show am_Run am_X0 (am_meth d) 160 R 5 [some (.ref 113), some (.int s), some (.int w)] [.int z_1] (am_mk I_2 L_3, 0, 0)
  obtain ⟨hA, hB⟩ := h
  refine ar_b0 am_c_ne (t := 14) (q := 8) rfl rfl rfl (fun c_4 => ?_) (fun c_4 => ?_)
  · have h := hA c_4
    clear hA hB
    refine ar_iload_n (j := 2) (q := 15) rfl rfl rfl rfl ?_
    obtain ⟨hA, hB⟩ := h
    refine ar_b0 am_c_lt (t := 23) (q := 18) rfl rfl rfl (fun c_5 => ?_) (fun c_5 => ?_)
    · have h := hA c_5
      clear hA hB
      refine ar_aload_n (j := 0) (q := 24) rfl rfl rfl rfl ?_
      refine ar_bipush (v := (-2 : Int32)) (q := 26) rfl rfl rfl ?_
      refine ar_invv (as := [.int (-2 : Int32)]) (rest := []) (b2 := (0, 0)) (b3 := (0, 0)) (q := 29) rfl rfl rfl rfl mk_113 rfl rfl rfl rfl rfl ?_
      refine am_meth_mono d _ _ _ _ _ (fun v9 m9 h9 => ?_) h
      obtain ⟨z_6, I_7, L_8, rfl, rfl, h⟩ := h9
      show am_Run am_X0 (am_meth d) 160 R 29 [some (.ref 113), some (.int s), some (.int w)] [.int z_6] (am_mk I_7 L_8, 0, 0)
      exact ar_iret rfl rfl h
    · have h := hB c_5
      clear hA hB
      refine ar_iload_n (j := 2) (q := 19) rfl rfl rfl rfl ?_
      refine ar_iconst (v := 5) (q := 20) rfl rfl rfl ?_
      obtain ⟨hA, hB⟩ := h
      refine ar_br am_c_le (t := 30) (q := 23) rfl rfl rfl (fun c_9 => ?_) (fun c_9 => ?_)
      · have h := hA c_9
        clear hA hB
        refine ar_iload_n (j := 2) (q := 31) rfl rfl rfl rfl ?_
        obtain ⟨hA, hB⟩ := h
        refine ar_b0 am_c_ne (t := 41) (q := 34) rfl rfl rfl (fun c_10 => ?_) (fun c_10 => ?_)
        · have h := hA c_10
          clear hA hB
          refine ar_iload_n (j := 2) (q := 42) rfl rfl rfl rfl ?_
          refine ar_iconst (v := 1) (q := 43) rfl rfl rfl ?_
          obtain ⟨hA, hB⟩ := h
          refine ar_br am_c_ne (t := 53) (q := 46) rfl rfl rfl (fun c_11 => ?_) (fun c_11 => ?_)
          · have h := hA c_11
            clear hA hB
            refine ar_iload_n (j := 2) (q := 54) rfl rfl rfl rfl ?_
            refine ar_iconst (v := 2) (q := 55) rfl rfl rfl ?_
            obtain ⟨hA, hB⟩ := h
            refine ar_br am_c_ne (t := 65) (q := 58) rfl rfl rfl (fun c_12 => ?_) (fun c_12 => ?_)
            · have h := hA c_12
              clear hA hB
              refine ar_iload_n (j := 2) (q := 66) rfl rfl rfl rfl ?_
              refine ar_iconst (v := 3) (q := 67) rfl rfl rfl ?_
              obtain ⟨hA, hB⟩ := h
              refine ar_br am_c_ne (t := 77) (q := 70) rfl rfl rfl (fun c_13 => ?_) (fun c_13 => ?_)
              · have h := hA c_13
                clear hA hB
                refine ar_iload_n (j := 2) (q := 78) rfl rfl rfl rfl ?_
                refine ar_iconst (v := 4) (q := 79) rfl rfl rfl ?_
                obtain ⟨hA, hB⟩ := h
                refine ar_br am_c_ne (t := 89) (q := 82) rfl rfl rfl (fun c_14 => ?_) (fun c_14 => ?_)
                · have h := hA c_14
                  clear hA hB
                  refine ar_aload_n (j := 0) (q := 90) rfl rfl rfl rfl ?_
                  refine ar_iload_n (j := 1) (q := 91) rfl rfl rfl rfl ?_
                  refine ar_invv (as := [.int s]) (rest := []) (b2 := (0, 0)) (b3 := (0, 0)) (q := 94) rfl rfl rfl rfl mk_113 rfl rfl rfl rfl rfl ?_
                  refine am_meth_mono d _ _ _ _ _ (fun v9 m9 h9 => ?_) h
                  obtain ⟨z_15, I_16, L_17, rfl, rfl, h⟩ := h9
                  show am_Run am_X0 (am_meth d) 160 R 94 [some (.ref 113), some (.int s), some (.int w)] [.int z_15] (am_mk I_16 L_17, 0, 0)
                  obtain ⟨hA, hB⟩ := h
                  refine ar_b0 am_c_eq (t := 101) (q := 97) rfl rfl rfl (fun c_18 => ?_) (fun c_18 => ?_)
                  · have h := hA c_18
                    clear hA hB
                    refine ar_iconst (v := 0) (q := 102) rfl rfl rfl ?_
                    exact ar_iret rfl rfl h
                  · have h := hB c_18
                    clear hA hB
                    refine ar_iconst (v := 1) (q := 98) rfl rfl rfl ?_
                    refine ar_goto (t := 102) rfl rfl ?_
                    exact ar_iret rfl rfl h
                · have h := hB c_14
                  clear hA hB
                  refine ar_aload_n (j := 0) (q := 83) rfl rfl rfl rfl ?_
                  refine ar_getf (v := .ref 129) (q := 86) rfl rfl mk_113 rfl rfl ?_
                  refine ar_iload_n (j := 1) (q := 87) rfl rfl rfl rfl ?_
                  obtain ⟨j_19, hx_20, hi_21, h⟩ := h
                  refine ar_iald (v := I_2 129 j_19) (q := 88) rfl mk_129 (am_inE hi_21 hx_20 (by decide)) (am_clE hi_21 hx_20 (by decide)) rfl ?_
                  exact ar_iret rfl rfl h
              · have h := hB c_13
                clear hA hB
                refine ar_aload_n (j := 0) (q := 71) rfl rfl rfl rfl ?_
                refine ar_getf (v := .ref 128) (q := 74) rfl rfl mk_113 rfl rfl ?_
                refine ar_iload_n (j := 1) (q := 75) rfl rfl rfl rfl ?_
                obtain ⟨j_22, hx_23, hi_24, h⟩ := h
                refine ar_iald (v := I_2 128 j_22) (q := 76) rfl mk_128 (am_inE hi_24 hx_23 (by decide)) (am_clE hi_24 hx_23 (by decide)) rfl ?_
                exact ar_iret rfl rfl h
            · have h := hB c_12
              clear hA hB
              refine ar_aload_n (j := 0) (q := 59) rfl rfl rfl rfl ?_
              refine ar_getf (v := .ref 127) (q := 62) rfl rfl mk_113 rfl rfl ?_
              refine ar_iload_n (j := 1) (q := 63) rfl rfl rfl rfl ?_
              obtain ⟨j_25, hx_26, hi_27, h⟩ := h
              refine ar_iald (v := I_2 127 j_25) (q := 64) rfl mk_127 (am_inE hi_27 hx_26 (by decide)) (am_clE hi_27 hx_26 (by decide)) rfl ?_
              exact ar_iret rfl rfl h
          · have h := hB c_11
            clear hA hB
            refine ar_aload_n (j := 0) (q := 47) rfl rfl rfl rfl ?_
            refine ar_getf (v := .ref 126) (q := 50) rfl rfl mk_113 rfl rfl ?_
            refine ar_iload_n (j := 1) (q := 51) rfl rfl rfl rfl ?_
            obtain ⟨j_28, hx_29, hi_30, h⟩ := h
            refine ar_iald (v := I_2 126 j_28) (q := 52) rfl mk_126 (am_inE hi_30 hx_29 (by decide)) (am_clE hi_30 hx_29 (by decide)) rfl ?_
            exact ar_iret rfl rfl h
        · have h := hB c_10
          clear hA hB
          refine ar_aload_n (j := 0) (q := 35) rfl rfl rfl rfl ?_
          refine ar_getf (v := .ref 125) (q := 38) rfl rfl mk_113 rfl rfl ?_
          refine ar_iload_n (j := 1) (q := 39) rfl rfl rfl rfl ?_
          obtain ⟨j_31, hx_32, hi_33, h⟩ := h
          refine ar_iald (v := I_2 125 j_31) (q := 40) rfl mk_125 (am_inE hi_33 hx_32 (by decide)) (am_clE hi_33 hx_32 (by decide)) rfl ?_
          exact ar_iret rfl rfl h
      · have h := hB c_9
        clear hA hB
        refine ar_aload_n (j := 0) (q := 24) rfl rfl rfl rfl ?_
        refine ar_bipush (v := (-2 : Int32)) (q := 26) rfl rfl rfl ?_
        refine ar_invv (as := [.int (-2 : Int32)]) (rest := []) (b2 := (0, 0)) (b3 := (0, 0)) (q := 29) rfl rfl rfl rfl mk_113 rfl rfl rfl rfl rfl ?_
        refine am_meth_mono d _ _ _ _ _ (fun v9 m9 h9 => ?_) h
        obtain ⟨z_34, I_35, L_36, rfl, rfl, h⟩ := h9
        show am_Run am_X0 (am_meth d) 160 R 29 [some (.ref 113), some (.int s), some (.int w)] [.int z_34] (am_mk I_35 L_36, 0, 0)
        exact ar_iret rfl rfl h
  · have h := hB c_4
    clear hA hB
    refine ar_aload_n (j := 0) (q := 9) rfl rfl rfl rfl ?_
    refine ar_iconst (v := (-1 : Int32)) (q := 10) rfl rfl rfl ?_
    refine ar_invv (as := [.int (-1 : Int32)]) (rest := []) (b2 := (0, 0)) (b3 := (0, 0)) (q := 13) rfl rfl rfl rfl mk_113 rfl rfl rfl rfl rfl ?_
    refine am_meth_mono d _ _ _ _ _ (fun v9 m9 h9 => ?_) h
    obtain ⟨z_37, I_38, L_39, rfl, rfl, h⟩ := h9
    show am_Run am_X0 (am_meth d) 160 R 13 [some (.ref 113), some (.int s), some (.int w)] [.int z_37] (am_mk I_38 L_39, 0, 0)
    exact ar_iret rfl rfl h
theorem r_M_cancel_0 {d : Nat} {R : am_R} {I : Nat → Nat → Int32} {L : Nat → Nat → Int64} {s : Int32} (h : am_meth d 161 [.ref 113, .int s] (am_mk I L, 0, 0) (am_ri (fun z_1 I_2 L_3 => ((¬ z_1 = 0 → (am_meth d 162 [.ref 113, .int s] (am_mk I_2 L_3, 0, 0) (am_ri (fun z_5 I_6 L_7 => ((¬ z_5 = 0 → (am_meth d 151 [.ref 113, .int (-3 : Int32)] (am_mk I_6 L_7, 0, 0) (am_ri (fun z_9 I_10 L_11 => R (some (.int z_9)) (am_mk I_10 L_11, 0, 0))))) ∧ (¬ (¬ z_5 = 0) → (∃ j_12 : Nat, j_12 < 60 ∧ s = nI j_12 ∧ (((¬ (I_6 128 j_12) = 2 → (∃ j_16 : Nat, j_16 < 60 ∧ s = nI j_16 ∧ (∀ I_19 : Nat → Nat → Int32, I_19 = va_up I_6 128 (upd (I_6 128) j_16 2) → (∃ j_21 : Nat, j_21 < 60 ∧ s = nI j_21 ∧ (R (some (.int (I_19 129 j_21))) (am_mk I_19 L_7, 0, 0)))))) ∧ (¬ (¬ (I_6 128 j_12) = 2) → (am_meth d 151 [.ref 113, .int (-3 : Int32)] (am_mk I_6 L_7, 0, 0) (am_ri (fun z_24 I_25 L_26 => R (some (.int z_24)) (am_mk I_25 L_26, 0, 0)))))))))))))) ∧ (¬ (¬ z_1 = 0) → (am_meth d 151 [.ref 113, .int (-1 : Int32)] (am_mk I_2 L_3, 0, 0) (am_ri (fun z_27 I_28 L_29 => R (some (.int z_27)) (am_mk I_28 L_29, 0, 0))))))))) : am_Run am_X0 (am_meth d) 192 R 0 [some (.ref 113), some (.int s)] [] (am_mk I L, 0, 0) := by
  refine ar_aload_n (j := 0) (q := 1) rfl rfl rfl rfl ?_
  refine ar_iload_n (j := 1) (q := 2) rfl rfl rfl rfl ?_
  refine ar_invv (as := [.int s]) (rest := []) (b2 := (0, 0)) (b3 := (0, 0)) (q := 5) rfl rfl rfl rfl mk_113 rfl rfl rfl rfl rfl ?_
  refine am_meth_mono d _ _ _ _ _ (fun v9 m9 h9 => ?_) h
  obtain ⟨z_1, I_2, L_3, rfl, rfl, h⟩ := h9
  show am_Run am_X0 (am_meth d) 192 R 5 [some (.ref 113), some (.int s)] [.int z_1] (am_mk I_2 L_3, 0, 0)
  obtain ⟨hA, hB⟩ := h
  refine ar_b0 am_c_ne (t := 14) (q := 8) rfl rfl rfl (fun c_4 => ?_) (fun c_4 => ?_)
  · have h := hA c_4
    clear hA hB
    refine ar_aload_n (j := 0) (q := 15) rfl rfl rfl rfl ?_
    refine ar_iload_n (j := 1) (q := 16) rfl rfl rfl rfl ?_
    refine ar_invv (as := [.int s]) (rest := []) (b2 := (0, 0)) (b3 := (0, 0)) (q := 19) rfl rfl rfl rfl mk_113 rfl rfl rfl rfl rfl ?_
    refine am_meth_mono d _ _ _ _ _ (fun v9 m9 h9 => ?_) h
    obtain ⟨z_5, I_6, L_7, rfl, rfl, h⟩ := h9
    show am_Run am_X0 (am_meth d) 192 R 19 [some (.ref 113), some (.int s)] [.int z_5] (am_mk I_6 L_7, 0, 0)
    obtain ⟨hA, hB⟩ := h
    refine ar_b0 am_c_ne (t := 32) (q := 22) rfl rfl rfl (fun c_8 => ?_) (fun c_8 => ?_)
    · have h := hA c_8
      clear hA hB
      refine ar_aload_n (j := 0) (q := 33) rfl rfl rfl rfl ?_
      refine ar_bipush (v := (-3 : Int32)) (q := 35) rfl rfl rfl ?_
      refine ar_invv (as := [.int (-3 : Int32)]) (rest := []) (b2 := (0, 0)) (b3 := (0, 0)) (q := 38) rfl rfl rfl rfl mk_113 rfl rfl rfl rfl rfl ?_
      refine am_meth_mono d _ _ _ _ _ (fun v9 m9 h9 => ?_) h
      obtain ⟨z_9, I_10, L_11, rfl, rfl, h⟩ := h9
      show am_Run am_X0 (am_meth d) 192 R 38 [some (.ref 113), some (.int s)] [.int z_9] (am_mk I_10 L_11, 0, 0)
      exact ar_iret rfl rfl h
    · have h := hB c_8
      clear hA hB
      refine ar_aload_n (j := 0) (q := 23) rfl rfl rfl rfl ?_
      refine ar_getf (v := .ref 128) (q := 26) rfl rfl mk_113 rfl rfl ?_
      refine ar_iload_n (j := 1) (q := 27) rfl rfl rfl rfl ?_
      obtain ⟨j_12, hx_13, hi_14, h⟩ := h
      refine ar_iald (v := I_6 128 j_12) (q := 28) rfl mk_128 (am_inE hi_14 hx_13 (by decide)) (am_clE hi_14 hx_13 (by decide)) rfl ?_
      refine ar_iconst (v := 2) (q := 29) rfl rfl rfl ?_
      obtain ⟨hA, hB⟩ := h
      refine ar_br am_c_ne (t := 39) (q := 32) rfl rfl rfl (fun c_15 => ?_) (fun c_15 => ?_)
      · have h := hA c_15
        clear hA hB
        refine ar_aload_n (j := 0) (q := 40) rfl rfl rfl rfl ?_
        refine ar_getf (v := .ref 128) (q := 43) rfl rfl mk_113 rfl rfl ?_
        refine ar_iload_n (j := 1) (q := 44) rfl rfl rfl rfl ?_
        refine ar_iconst (v := 2) (q := 45) rfl rfl rfl ?_
        obtain ⟨j_16, hx_17, hi_18, h⟩ := h
        obtain ⟨I_19, hI_20⟩ : ∃ z : Nat → Nat → Int32, z = va_up I_6 128 (upd (I_6 128) j_16 2) := ⟨_, rfl⟩
        have h := h I_19 hI_20
        refine ar_iast (hp2 := am_mk I_19 L_7) (q := 46) rfl mk_128 (am_inE hi_18 hx_17 (by decide)) (by rw [am_clT hi_18 hx_17 (by decide), hI_20]; exact mk_s128) rfl ?_
        refine ar_aload_n (j := 0) (q := 47) rfl rfl rfl rfl ?_
        refine ar_getf (v := .ref 129) (q := 50) rfl rfl mk_113 rfl rfl ?_
        refine ar_iload_n (j := 1) (q := 51) rfl rfl rfl rfl ?_
        obtain ⟨j_21, hx_22, hi_23, h⟩ := h
        refine ar_iald (v := I_19 129 j_21) (q := 52) rfl mk_129 (am_inE hi_23 hx_22 (by decide)) (am_clE hi_23 hx_22 (by decide)) rfl ?_
        exact ar_iret rfl rfl h
      · have h := hB c_15
        clear hA hB
        refine ar_aload_n (j := 0) (q := 33) rfl rfl rfl rfl ?_
        refine ar_bipush (v := (-3 : Int32)) (q := 35) rfl rfl rfl ?_
        refine ar_invv (as := [.int (-3 : Int32)]) (rest := []) (b2 := (0, 0)) (b3 := (0, 0)) (q := 38) rfl rfl rfl rfl mk_113 rfl rfl rfl rfl rfl ?_
        refine am_meth_mono d _ _ _ _ _ (fun v9 m9 h9 => ?_) h
        obtain ⟨z_24, I_25, L_26, rfl, rfl, h⟩ := h9
        show am_Run am_X0 (am_meth d) 192 R 38 [some (.ref 113), some (.int s)] [.int z_24] (am_mk I_25 L_26, 0, 0)
        exact ar_iret rfl rfl h
  · have h := hB c_4
    clear hA hB
    refine ar_aload_n (j := 0) (q := 9) rfl rfl rfl rfl ?_
    refine ar_iconst (v := (-1 : Int32)) (q := 10) rfl rfl rfl ?_
    refine ar_invv (as := [.int (-1 : Int32)]) (rest := []) (b2 := (0, 0)) (b3 := (0, 0)) (q := 13) rfl rfl rfl rfl mk_113 rfl rfl rfl rfl rfl ?_
    refine am_meth_mono d _ _ _ _ _ (fun v9 m9 h9 => ?_) h
    obtain ⟨z_27, I_28, L_29, rfl, rfl, h⟩ := h9
    show am_Run am_X0 (am_meth d) 192 R 13 [some (.ref 113), some (.int s)] [.int z_27] (am_mk I_28 L_29, 0, 0)
    exact ar_iret rfl rfl h
theorem r_M_put_0 {d : Nat} {R : am_R} {I : Nat → Nat → Int32} {L : Nat → Nat → Int64} {v : Int32} (h : (((-1 : Int32) ≤ v → (((99 < v → (am_meth d 151 [.ref 113, .int (-6 : Int32)] (am_mk I L, 0, 0) (am_ri (fun z_3 I_4 L_5 => R (some (.int z_3)) (am_mk I_4 L_5, 0, 0))))) ∧ (¬ (99 < v) → (((¬ (I 113 39) = 12 → (∃ j_7 : Nat, j_7 < 12 ∧ I 113 39 = nI j_7 ∧ (∀ I_10 : Nat → Nat → Int32, I_10 = va_up I 146 (upd (I 146) j_7 v) → (∀ I_12 : Nat → Nat → Int32, I_12 = va_up I_10 113 (upd (I_10 113) 39 ((I_10 113 39) + 1)) → (R (some (.int (I_12 113 39))) (am_mk I_12 L, 0, 0)))))) ∧ (¬ (¬ (I 113 39) = 12) → (am_meth d 151 [.ref 113, .int (-6 : Int32)] (am_mk I L, 0, 0) (am_ri (fun z_14 I_15 L_16 => R (some (.int z_14)) (am_mk I_15 L_16, 0, 0))))))))))) ∧ (¬ ((-1 : Int32) ≤ v) → (am_meth d 151 [.ref 113, .int (-4 : Int32)] (am_mk I L, 0, 0) (am_ri (fun z_17 I_18 L_19 => R (some (.int z_17)) (am_mk I_18 L_19, 0, 0))))))) : am_Run am_X0 (am_meth d) 205 R 0 [some (.ref 113), some (.int v)] [] (am_mk I L, 0, 0) := by
  refine ar_iload_n (j := 1) (q := 1) rfl rfl rfl rfl ?_
  refine ar_iconst (v := (-1 : Int32)) (q := 2) rfl rfl rfl ?_
  obtain ⟨hA, hB⟩ := h
  refine ar_br am_c_ge (t := 12) (q := 5) rfl rfl rfl (fun c_1 => ?_) (fun c_1 => ?_)
  · have h := hA c_1
    clear hA hB
    refine ar_iload_n (j := 1) (q := 13) rfl rfl rfl rfl ?_
    refine ar_bipush (v := 99) (q := 15) rfl rfl rfl ?_
    obtain ⟨hA, hB⟩ := h
    refine ar_br am_c_gt (t := 27) (q := 18) rfl rfl rfl (fun c_2 => ?_) (fun c_2 => ?_)
    · have h := hA c_2
      clear hA hB
      refine ar_aload_n (j := 0) (q := 28) rfl rfl rfl rfl ?_
      refine ar_bipush (v := (-6 : Int32)) (q := 30) rfl rfl rfl ?_
      refine ar_invv (as := [.int (-6 : Int32)]) (rest := []) (b2 := (0, 0)) (b3 := (0, 0)) (q := 33) rfl rfl rfl rfl mk_113 rfl rfl rfl rfl rfl ?_
      refine am_meth_mono d _ _ _ _ _ (fun v9 m9 h9 => ?_) h
      obtain ⟨z_3, I_4, L_5, rfl, rfl, h⟩ := h9
      show am_Run am_X0 (am_meth d) 205 R 33 [some (.ref 113), some (.int v)] [.int z_3] (am_mk I_4 L_5, 0, 0)
      exact ar_iret rfl rfl h
    · have h := hB c_2
      clear hA hB
      refine ar_aload_n (j := 0) (q := 19) rfl rfl rfl rfl ?_
      refine ar_getf (v := .int (I 113 39)) (q := 22) rfl rfl mk_113 rfl rfl ?_
      refine ar_bipush (v := 12) (q := 24) rfl rfl rfl ?_
      obtain ⟨hA, hB⟩ := h
      refine ar_br am_c_ne (t := 34) (q := 27) rfl rfl rfl (fun c_6 => ?_) (fun c_6 => ?_)
      · have h := hA c_6
        clear hA hB
        refine ar_aload_n (j := 0) (q := 35) rfl rfl rfl rfl ?_
        refine ar_getf (v := .ref 146) (q := 38) rfl rfl mk_113 rfl rfl ?_
        refine ar_aload_n (j := 0) (q := 39) rfl rfl rfl rfl ?_
        refine ar_getf (v := .int (I 113 39)) (q := 42) rfl rfl mk_113 rfl rfl ?_
        refine ar_iload_n (j := 1) (q := 43) rfl rfl rfl rfl ?_
        obtain ⟨j_7, hx_8, hi_9, h⟩ := h
        obtain ⟨I_10, hI_11⟩ : ∃ z : Nat → Nat → Int32, z = va_up I 146 (upd (I 146) j_7 v) := ⟨_, rfl⟩
        have h := h I_10 hI_11
        refine ar_iast (hp2 := am_mk I_10 L) (q := 44) rfl mk_146 (am_inE hi_9 hx_8 (by decide)) (by rw [am_clT hi_9 hx_8 (by decide), hI_11]; exact mk_s146) rfl ?_
        refine ar_aload_n (j := 0) (q := 45) rfl rfl rfl rfl ?_
        refine ar_st (i := .dup) (n := 1) (st' := [.ref 113, .ref 113]) (q := 46) rfl rfl rfl rfl ?_
        refine ar_getf (v := .int (I_10 113 39)) (q := 49) rfl rfl mk_113 rfl rfl ?_
        refine ar_iconst (v := 1) (q := 50) rfl rfl rfl ?_
        refine ar_ib (i := .iadd) (z := (I_10 113 39) + 1) (q := 51) rfl rfl rfl rfl rfl ?_
        obtain ⟨I_12, hI_13⟩ : ∃ z : Nat → Nat → Int32, z = va_up I_10 113 (upd (I_10 113) 39 ((I_10 113 39) + 1)) := ⟨_, rfl⟩
        have h := h I_12 hI_13
        refine ar_putf (hp2 := am_mk I_12 L) (q := 54) rfl rfl mk_113 rfl (by rw [hI_13]; exact mk_p113_39) rfl ?_
        refine ar_aload_n (j := 0) (q := 55) rfl rfl rfl rfl ?_
        refine ar_getf (v := .int (I_12 113 39)) (q := 58) rfl rfl mk_113 rfl rfl ?_
        exact ar_iret rfl rfl h
      · have h := hB c_6
        clear hA hB
        refine ar_aload_n (j := 0) (q := 28) rfl rfl rfl rfl ?_
        refine ar_bipush (v := (-6 : Int32)) (q := 30) rfl rfl rfl ?_
        refine ar_invv (as := [.int (-6 : Int32)]) (rest := []) (b2 := (0, 0)) (b3 := (0, 0)) (q := 33) rfl rfl rfl rfl mk_113 rfl rfl rfl rfl rfl ?_
        refine am_meth_mono d _ _ _ _ _ (fun v9 m9 h9 => ?_) h
        obtain ⟨z_14, I_15, L_16, rfl, rfl, h⟩ := h9
        show am_Run am_X0 (am_meth d) 205 R 33 [some (.ref 113), some (.int v)] [.int z_14] (am_mk I_15 L_16, 0, 0)
        exact ar_iret rfl rfl h
  · have h := hB c_1
    clear hA hB
    refine ar_aload_n (j := 0) (q := 6) rfl rfl rfl rfl ?_
    refine ar_bipush (v := (-4 : Int32)) (q := 8) rfl rfl rfl ?_
    refine ar_invv (as := [.int (-4 : Int32)]) (rest := []) (b2 := (0, 0)) (b3 := (0, 0)) (q := 11) rfl rfl rfl rfl mk_113 rfl rfl rfl rfl rfl ?_
    refine am_meth_mono d _ _ _ _ _ (fun v9 m9 h9 => ?_) h
    obtain ⟨z_17, I_18, L_19, rfl, rfl, h⟩ := h9
    show am_Run am_X0 (am_meth d) 205 R 11 [some (.ref 113), some (.int v)] [.int z_17] (am_mk I_18 L_19, 0, 0)
    exact ar_iret rfl rfl h
theorem r_M_unput_0 {d : Nat} {R : am_R} {I : Nat → Nat → Int32} {L : Nat → Nat → Int64}  (h : ∀ I_1 : Nat → Nat → Int32, I_1 = va_up I 113 (upd (I 113) 39 0) → (R (some (.int (I 113 39))) (am_mk I_1 L, 0, 0))) : am_Run am_X0 (am_meth d) 206 R 0 [some (.ref 113), none] [] (am_mk I L, 0, 0) := by
  refine ar_aload_n (j := 0) (q := 1) rfl rfl rfl rfl ?_
  refine ar_getf (v := .int (I 113 39)) (q := 4) rfl rfl mk_113 rfl rfl ?_
  refine ar_istore_n (j := 1) (ls' := [some (.ref 113), some (.int (I 113 39))]) (q := 5) rfl rfl rfl rfl rfl ?_
  refine ar_aload_n (j := 0) (q := 6) rfl rfl rfl rfl ?_
  refine ar_iconst (v := 0) (q := 7) rfl rfl rfl ?_
  obtain ⟨I_1, hI_2⟩ : ∃ z : Nat → Nat → Int32, z = va_up I 113 (upd (I 113) 39 0) := ⟨_, rfl⟩
  have h := h I_1 hI_2
  refine ar_putf (hp2 := am_mk I_1 L) (q := 10) rfl rfl mk_113 rfl (by rw [hI_2]; exact mk_p113_39) rfl ?_
  refine ar_iload_n (j := 1) (q := 11) rfl rfl rfl rfl ?_
  exact ar_iret rfl rfl h
theorem r_M_tell_0 {d : Nat} {R : am_R} {I : Nat → Nat → Int32} {L : Nat → Nat → Int64} {v : Int32} (h : (((-1 : Int32) ≤ v → (((99 < v → (am_meth d 151 [.ref 113, .int (-6 : Int32)] (am_mk I L, 0, 0) (am_ri (fun z_3 I_4 L_5 => R (some (.int z_3)) (am_mk I_4 L_5, 0, 0))))) ∧ (¬ (99 < v) → (((¬ (I 113 41) = 6 → (∃ j_7 : Nat, j_7 < 6 ∧ I 113 41 = nI j_7 ∧ (∀ I_10 : Nat → Nat → Int32, I_10 = va_up I 147 (upd (I 147) j_7 v) → (∀ I_12 : Nat → Nat → Int32, I_12 = va_up I_10 113 (upd (I_10 113) 41 ((I_10 113 41) + 1)) → (R (some (.int (I_12 113 41))) (am_mk I_12 L, 0, 0)))))) ∧ (¬ (¬ (I 113 41) = 6) → (am_meth d 151 [.ref 113, .int (-6 : Int32)] (am_mk I L, 0, 0) (am_ri (fun z_14 I_15 L_16 => R (some (.int z_14)) (am_mk I_15 L_16, 0, 0))))))))))) ∧ (¬ ((-1 : Int32) ≤ v) → (am_meth d 151 [.ref 113, .int (-4 : Int32)] (am_mk I L, 0, 0) (am_ri (fun z_17 I_18 L_19 => R (some (.int z_17)) (am_mk I_18 L_19, 0, 0))))))) : am_Run am_X0 (am_meth d) 224 R 0 [some (.ref 113), some (.int v)] [] (am_mk I L, 0, 0) := by
  refine ar_iload_n (j := 1) (q := 1) rfl rfl rfl rfl ?_
  refine ar_iconst (v := (-1 : Int32)) (q := 2) rfl rfl rfl ?_
  obtain ⟨hA, hB⟩ := h
  refine ar_br am_c_ge (t := 12) (q := 5) rfl rfl rfl (fun c_1 => ?_) (fun c_1 => ?_)
  · have h := hA c_1
    clear hA hB
    refine ar_iload_n (j := 1) (q := 13) rfl rfl rfl rfl ?_
    refine ar_bipush (v := 99) (q := 15) rfl rfl rfl ?_
    obtain ⟨hA, hB⟩ := h
    refine ar_br am_c_gt (t := 27) (q := 18) rfl rfl rfl (fun c_2 => ?_) (fun c_2 => ?_)
    · have h := hA c_2
      clear hA hB
      refine ar_aload_n (j := 0) (q := 28) rfl rfl rfl rfl ?_
      refine ar_bipush (v := (-6 : Int32)) (q := 30) rfl rfl rfl ?_
      refine ar_invv (as := [.int (-6 : Int32)]) (rest := []) (b2 := (0, 0)) (b3 := (0, 0)) (q := 33) rfl rfl rfl rfl mk_113 rfl rfl rfl rfl rfl ?_
      refine am_meth_mono d _ _ _ _ _ (fun v9 m9 h9 => ?_) h
      obtain ⟨z_3, I_4, L_5, rfl, rfl, h⟩ := h9
      show am_Run am_X0 (am_meth d) 224 R 33 [some (.ref 113), some (.int v)] [.int z_3] (am_mk I_4 L_5, 0, 0)
      exact ar_iret rfl rfl h
    · have h := hB c_2
      clear hA hB
      refine ar_aload_n (j := 0) (q := 19) rfl rfl rfl rfl ?_
      refine ar_getf (v := .int (I 113 41)) (q := 22) rfl rfl mk_113 rfl rfl ?_
      refine ar_bipush (v := 6) (q := 24) rfl rfl rfl ?_
      obtain ⟨hA, hB⟩ := h
      refine ar_br am_c_ne (t := 34) (q := 27) rfl rfl rfl (fun c_6 => ?_) (fun c_6 => ?_)
      · have h := hA c_6
        clear hA hB
        refine ar_aload_n (j := 0) (q := 35) rfl rfl rfl rfl ?_
        refine ar_getf (v := .ref 147) (q := 38) rfl rfl mk_113 rfl rfl ?_
        refine ar_aload_n (j := 0) (q := 39) rfl rfl rfl rfl ?_
        refine ar_getf (v := .int (I 113 41)) (q := 42) rfl rfl mk_113 rfl rfl ?_
        refine ar_iload_n (j := 1) (q := 43) rfl rfl rfl rfl ?_
        obtain ⟨j_7, hx_8, hi_9, h⟩ := h
        obtain ⟨I_10, hI_11⟩ : ∃ z : Nat → Nat → Int32, z = va_up I 147 (upd (I 147) j_7 v) := ⟨_, rfl⟩
        have h := h I_10 hI_11
        refine ar_iast (hp2 := am_mk I_10 L) (q := 44) rfl mk_147 (am_inE hi_9 hx_8 (by decide)) (by rw [am_clT hi_9 hx_8 (by decide), hI_11]; exact mk_s147) rfl ?_
        refine ar_aload_n (j := 0) (q := 45) rfl rfl rfl rfl ?_
        refine ar_st (i := .dup) (n := 1) (st' := [.ref 113, .ref 113]) (q := 46) rfl rfl rfl rfl ?_
        refine ar_getf (v := .int (I_10 113 41)) (q := 49) rfl rfl mk_113 rfl rfl ?_
        refine ar_iconst (v := 1) (q := 50) rfl rfl rfl ?_
        refine ar_ib (i := .iadd) (z := (I_10 113 41) + 1) (q := 51) rfl rfl rfl rfl rfl ?_
        obtain ⟨I_12, hI_13⟩ : ∃ z : Nat → Nat → Int32, z = va_up I_10 113 (upd (I_10 113) 41 ((I_10 113 41) + 1)) := ⟨_, rfl⟩
        have h := h I_12 hI_13
        refine ar_putf (hp2 := am_mk I_12 L) (q := 54) rfl rfl mk_113 rfl (by rw [hI_13]; exact mk_p113_41) rfl ?_
        refine ar_aload_n (j := 0) (q := 55) rfl rfl rfl rfl ?_
        refine ar_getf (v := .int (I_12 113 41)) (q := 58) rfl rfl mk_113 rfl rfl ?_
        exact ar_iret rfl rfl h
      · have h := hB c_6
        clear hA hB
        refine ar_aload_n (j := 0) (q := 28) rfl rfl rfl rfl ?_
        refine ar_bipush (v := (-6 : Int32)) (q := 30) rfl rfl rfl ?_
        refine ar_invv (as := [.int (-6 : Int32)]) (rest := []) (b2 := (0, 0)) (b3 := (0, 0)) (q := 33) rfl rfl rfl rfl mk_113 rfl rfl rfl rfl rfl ?_
        refine am_meth_mono d _ _ _ _ _ (fun v9 m9 h9 => ?_) h
        obtain ⟨z_14, I_15, L_16, rfl, rfl, h⟩ := h9
        show am_Run am_X0 (am_meth d) 224 R 33 [some (.ref 113), some (.int v)] [.int z_14] (am_mk I_15 L_16, 0, 0)
        exact ar_iret rfl rfl h
  · have h := hB c_1
    clear hA hB
    refine ar_aload_n (j := 0) (q := 6) rfl rfl rfl rfl ?_
    refine ar_bipush (v := (-4 : Int32)) (q := 8) rfl rfl rfl ?_
    refine ar_invv (as := [.int (-4 : Int32)]) (rest := []) (b2 := (0, 0)) (b3 := (0, 0)) (q := 11) rfl rfl rfl rfl mk_113 rfl rfl rfl rfl rfl ?_
    refine am_meth_mono d _ _ _ _ _ (fun v9 m9 h9 => ?_) h
    obtain ⟨z_17, I_18, L_19, rfl, rfl, h⟩ := h9
    show am_Run am_X0 (am_meth d) 224 R 11 [some (.ref 113), some (.int v)] [.int z_17] (am_mk I_18 L_19, 0, 0)
    exact ar_iret rfl rfl h
theorem r_M_wish_0 {d : Nat} {R : am_R} {I : Nat → Nat → Int32} {L : Nat → Nat → Int64} {k : Int32} {l : Int32} {v : Int32} (h : am_meth d 164 [.ref 113, .int k] (am_mk I L, 0, 0) (am_ri (fun z_1 I_2 L_3 => ((z_1 = 0 → (am_meth d 151 [.ref 113, .int (-1 : Int32)] (am_mk I_2 L_3, 0, 0) (am_ri (fun z_5 I_6 L_7 => R (some (.int z_5)) (am_mk I_6 L_7, 0, 0))))) ∧ (¬ (z_1 = 0) → (((l < 0 → (am_meth d 151 [.ref 113, .int (-1 : Int32)] (am_mk I_2 L_3, 0, 0) (am_ri (fun z_9 I_10 L_11 => R (some (.int z_9)) (am_mk I_10 L_11, 0, 0))))) ∧ (¬ (l < 0) → (((l ≤ 4 → (((0 ≤ v → (((v ≤ 99 → (∃ j_15 : Nat, j_15 < 100 ∧ (k * 5) + l = nI j_15 ∧ (∃ j_18 : Nat, j_18 < 100 ∧ (k * 5) + l = nI j_18 ∧ (∀ I_21 : Nat → Nat → Int32, I_21 = va_up I_2 121 (upd (I_2 121) j_18 v) → (R (some (.int (I_2 121 j_15))) (am_mk I_21 L_3, 0, 0)))))) ∧ (¬ (v ≤ 99) → (am_meth d 151 [.ref 113, .int (-6 : Int32)] (am_mk I_2 L_3, 0, 0) (am_ri (fun z_23 I_24 L_25 => R (some (.int z_23)) (am_mk I_24 L_25, 0, 0)))))))) ∧ (¬ (0 ≤ v) → (am_meth d 151 [.ref 113, .int (-4 : Int32)] (am_mk I_2 L_3, 0, 0) (am_ri (fun z_26 I_27 L_28 => R (some (.int z_26)) (am_mk I_27 L_28, 0, 0)))))))) ∧ (¬ (l ≤ 4) → (am_meth d 151 [.ref 113, .int (-1 : Int32)] (am_mk I_2 L_3, 0, 0) (am_ri (fun z_29 I_30 L_31 => R (some (.int z_29)) (am_mk I_30 L_31, 0, 0))))))))))))))) : am_Run am_X0 (am_meth d) 213 R 0 [some (.ref 113), some (.int k), some (.int l), some (.int v), none] [] (am_mk I L, 0, 0) := by
  refine ar_aload_n (j := 0) (q := 1) rfl rfl rfl rfl ?_
  refine ar_iload_n (j := 1) (q := 2) rfl rfl rfl rfl ?_
  refine ar_invv (as := [.int k]) (rest := []) (b2 := (0, 0)) (b3 := (0, 0)) (q := 5) rfl rfl rfl rfl mk_113 rfl rfl rfl rfl rfl ?_
  refine am_meth_mono d _ _ _ _ _ (fun v9 m9 h9 => ?_) h
  obtain ⟨z_1, I_2, L_3, rfl, rfl, h⟩ := h9
  show am_Run am_X0 (am_meth d) 213 R 5 [some (.ref 113), some (.int k), some (.int l), some (.int v), none] [.int z_1] (am_mk I_2 L_3, 0, 0)
  obtain ⟨hA, hB⟩ := h
  refine ar_b0 am_c_eq (t := 17) (q := 8) rfl rfl rfl (fun c_4 => ?_) (fun c_4 => ?_)
  · have h := hA c_4
    clear hA hB
    refine ar_aload_n (j := 0) (q := 18) rfl rfl rfl rfl ?_
    refine ar_iconst (v := (-1 : Int32)) (q := 19) rfl rfl rfl ?_
    refine ar_invv (as := [.int (-1 : Int32)]) (rest := []) (b2 := (0, 0)) (b3 := (0, 0)) (q := 22) rfl rfl rfl rfl mk_113 rfl rfl rfl rfl rfl ?_
    refine am_meth_mono d _ _ _ _ _ (fun v9 m9 h9 => ?_) h
    obtain ⟨z_5, I_6, L_7, rfl, rfl, h⟩ := h9
    show am_Run am_X0 (am_meth d) 213 R 22 [some (.ref 113), some (.int k), some (.int l), some (.int v), none] [.int z_5] (am_mk I_6 L_7, 0, 0)
    exact ar_iret rfl rfl h
  · have h := hB c_4
    clear hA hB
    refine ar_iload_n (j := 2) (q := 9) rfl rfl rfl rfl ?_
    obtain ⟨hA, hB⟩ := h
    refine ar_b0 am_c_lt (t := 17) (q := 12) rfl rfl rfl (fun c_8 => ?_) (fun c_8 => ?_)
    · have h := hA c_8
      clear hA hB
      refine ar_aload_n (j := 0) (q := 18) rfl rfl rfl rfl ?_
      refine ar_iconst (v := (-1 : Int32)) (q := 19) rfl rfl rfl ?_
      refine ar_invv (as := [.int (-1 : Int32)]) (rest := []) (b2 := (0, 0)) (b3 := (0, 0)) (q := 22) rfl rfl rfl rfl mk_113 rfl rfl rfl rfl rfl ?_
      refine am_meth_mono d _ _ _ _ _ (fun v9 m9 h9 => ?_) h
      obtain ⟨z_9, I_10, L_11, rfl, rfl, h⟩ := h9
      show am_Run am_X0 (am_meth d) 213 R 22 [some (.ref 113), some (.int k), some (.int l), some (.int v), none] [.int z_9] (am_mk I_10 L_11, 0, 0)
      exact ar_iret rfl rfl h
    · have h := hB c_8
      clear hA hB
      refine ar_iload_n (j := 2) (q := 13) rfl rfl rfl rfl ?_
      refine ar_iconst (v := 4) (q := 14) rfl rfl rfl ?_
      obtain ⟨hA, hB⟩ := h
      refine ar_br am_c_le (t := 23) (q := 17) rfl rfl rfl (fun c_12 => ?_) (fun c_12 => ?_)
      · have h := hA c_12
        clear hA hB
        refine ar_iload_n (j := 3) (q := 24) rfl rfl rfl rfl ?_
        obtain ⟨hA, hB⟩ := h
        refine ar_b0 am_c_ge (t := 34) (q := 27) rfl rfl rfl (fun c_13 => ?_) (fun c_13 => ?_)
        · have h := hA c_13
          clear hA hB
          refine ar_iload_n (j := 3) (q := 35) rfl rfl rfl rfl ?_
          refine ar_bipush (v := 99) (q := 37) rfl rfl rfl ?_
          obtain ⟨hA, hB⟩ := h
          refine ar_br am_c_le (t := 47) (q := 40) rfl rfl rfl (fun c_14 => ?_) (fun c_14 => ?_)
          · have h := hA c_14
            clear hA hB
            refine ar_aload_n (j := 0) (q := 48) rfl rfl rfl rfl ?_
            refine ar_getf (v := .ref 121) (q := 51) rfl rfl mk_113 rfl rfl ?_
            refine ar_iload_n (j := 1) (q := 52) rfl rfl rfl rfl ?_
            refine ar_iconst (v := 5) (q := 53) rfl rfl rfl ?_
            refine ar_ib (i := .imul) (z := k * 5) (q := 54) rfl rfl rfl rfl rfl ?_
            refine ar_iload_n (j := 2) (q := 55) rfl rfl rfl rfl ?_
            refine ar_ib (i := .iadd) (z := (k * 5) + l) (q := 56) rfl rfl rfl rfl rfl ?_
            obtain ⟨j_15, hx_16, hi_17, h⟩ := h
            refine ar_iald (v := I_2 121 j_15) (q := 57) rfl mk_121 (am_inE hi_17 hx_16 (by decide)) (am_clE hi_17 hx_16 (by decide)) rfl ?_
            refine ar_istore (ls' := [some (.ref 113), some (.int k), some (.int l), some (.int v), some (.int (I_2 121 j_15))]) (q := 59) rfl rfl rfl rfl ?_
            refine ar_aload_n (j := 0) (q := 60) rfl rfl rfl rfl ?_
            refine ar_getf (v := .ref 121) (q := 63) rfl rfl mk_113 rfl rfl ?_
            refine ar_iload_n (j := 1) (q := 64) rfl rfl rfl rfl ?_
            refine ar_iconst (v := 5) (q := 65) rfl rfl rfl ?_
            refine ar_ib (i := .imul) (z := k * 5) (q := 66) rfl rfl rfl rfl rfl ?_
            refine ar_iload_n (j := 2) (q := 67) rfl rfl rfl rfl ?_
            refine ar_ib (i := .iadd) (z := (k * 5) + l) (q := 68) rfl rfl rfl rfl rfl ?_
            refine ar_iload_n (j := 3) (q := 69) rfl rfl rfl rfl ?_
            obtain ⟨j_18, hx_19, hi_20, h⟩ := h
            obtain ⟨I_21, hI_22⟩ : ∃ z : Nat → Nat → Int32, z = va_up I_2 121 (upd (I_2 121) j_18 v) := ⟨_, rfl⟩
            have h := h I_21 hI_22
            refine ar_iast (hp2 := am_mk I_21 L_3) (q := 70) rfl mk_121 (am_inE hi_20 hx_19 (by decide)) (by rw [am_clT hi_20 hx_19 (by decide), hI_22]; exact mk_s121) rfl ?_
            refine ar_iload (q := 72) rfl rfl rfl ?_
            exact ar_iret rfl rfl h
          · have h := hB c_14
            clear hA hB
            refine ar_aload_n (j := 0) (q := 41) rfl rfl rfl rfl ?_
            refine ar_bipush (v := (-6 : Int32)) (q := 43) rfl rfl rfl ?_
            refine ar_invv (as := [.int (-6 : Int32)]) (rest := []) (b2 := (0, 0)) (b3 := (0, 0)) (q := 46) rfl rfl rfl rfl mk_113 rfl rfl rfl rfl rfl ?_
            refine am_meth_mono d _ _ _ _ _ (fun v9 m9 h9 => ?_) h
            obtain ⟨z_23, I_24, L_25, rfl, rfl, h⟩ := h9
            show am_Run am_X0 (am_meth d) 213 R 46 [some (.ref 113), some (.int k), some (.int l), some (.int v), none] [.int z_23] (am_mk I_24 L_25, 0, 0)
            exact ar_iret rfl rfl h
        · have h := hB c_13
          clear hA hB
          refine ar_aload_n (j := 0) (q := 28) rfl rfl rfl rfl ?_
          refine ar_bipush (v := (-4 : Int32)) (q := 30) rfl rfl rfl ?_
          refine ar_invv (as := [.int (-4 : Int32)]) (rest := []) (b2 := (0, 0)) (b3 := (0, 0)) (q := 33) rfl rfl rfl rfl mk_113 rfl rfl rfl rfl rfl ?_
          refine am_meth_mono d _ _ _ _ _ (fun v9 m9 h9 => ?_) h
          obtain ⟨z_26, I_27, L_28, rfl, rfl, h⟩ := h9
          show am_Run am_X0 (am_meth d) 213 R 33 [some (.ref 113), some (.int k), some (.int l), some (.int v), none] [.int z_26] (am_mk I_27 L_28, 0, 0)
          exact ar_iret rfl rfl h
      · have h := hB c_12
        clear hA hB
        refine ar_aload_n (j := 0) (q := 18) rfl rfl rfl rfl ?_
        refine ar_iconst (v := (-1 : Int32)) (q := 19) rfl rfl rfl ?_
        refine ar_invv (as := [.int (-1 : Int32)]) (rest := []) (b2 := (0, 0)) (b3 := (0, 0)) (q := 22) rfl rfl rfl rfl mk_113 rfl rfl rfl rfl rfl ?_
        refine am_meth_mono d _ _ _ _ _ (fun v9 m9 h9 => ?_) h
        obtain ⟨z_29, I_30, L_31, rfl, rfl, h⟩ := h9
        show am_Run am_X0 (am_meth d) 213 R 22 [some (.ref 113), some (.int k), some (.int l), some (.int v), none] [.int z_29] (am_mk I_30 L_31, 0, 0)
        exact ar_iret rfl rfl h
theorem r_M_look_0 {d : Nat} {R : am_R} {I : Nat → Nat → Int32} {L : Nat → Nat → Int64} {a : Int32} {b : Int32} {v : Int32} (h : am_meth d 159 [.ref 113, .int a] (am_mk I L, 0, 0) (am_ri (fun z_1 I_2 L_3 => ((¬ z_1 = 0 → (((b < 0 → (am_meth d 151 [.ref 113, .int (-4 : Int32)] (am_mk I_2 L_3, 0, 0) (am_ri (fun z_6 I_7 L_8 => R (some (.int z_6)) (am_mk I_7 L_8, 0, 0))))) ∧ (¬ (b < 0) → (((0 ≤ v → (((30 < b → (am_meth d 151 [.ref 113, .int (-6 : Int32)] (am_mk I_2 L_3, 0, 0) (am_ri (fun z_11 I_12 L_13 => R (some (.int z_11)) (am_mk I_12 L_13, 0, 0))))) ∧ (¬ (30 < b) → (((v ≤ 9 → (∃ j_15 : Nat, j_15 < 620 ∧ (a * 31) + b = nI j_15 ∧ (∃ j_18 : Nat, j_18 < 620 ∧ (a * 31) + b = nI j_18 ∧ (∀ I_21 : Nat → Nat → Int32, I_21 = va_up I_2 124 (upd (I_2 124) j_18 v) → (R (some (.int (I_2 124 j_15))) (am_mk I_21 L_3, 0, 0)))))) ∧ (¬ (v ≤ 9) → (am_meth d 151 [.ref 113, .int (-6 : Int32)] (am_mk I_2 L_3, 0, 0) (am_ri (fun z_23 I_24 L_25 => R (some (.int z_23)) (am_mk I_24 L_25, 0, 0))))))))))) ∧ (¬ (0 ≤ v) → (am_meth d 151 [.ref 113, .int (-4 : Int32)] (am_mk I_2 L_3, 0, 0) (am_ri (fun z_26 I_27 L_28 => R (some (.int z_26)) (am_mk I_27 L_28, 0, 0))))))))))) ∧ (¬ (¬ z_1 = 0) → (am_meth d 151 [.ref 113, .int (-1 : Int32)] (am_mk I_2 L_3, 0, 0) (am_ri (fun z_29 I_30 L_31 => R (some (.int z_29)) (am_mk I_30 L_31, 0, 0))))))))) : am_Run am_X0 (am_meth d) 235 R 0 [some (.ref 113), some (.int a), some (.int b), some (.int v), none] [] (am_mk I L, 0, 0) := by
  refine ar_aload_n (j := 0) (q := 1) rfl rfl rfl rfl ?_
  refine ar_iload_n (j := 1) (q := 2) rfl rfl rfl rfl ?_
  refine ar_invv (as := [.int a]) (rest := []) (b2 := (0, 0)) (b3 := (0, 0)) (q := 5) rfl rfl rfl rfl mk_113 rfl rfl rfl rfl rfl ?_
  refine am_meth_mono d _ _ _ _ _ (fun v9 m9 h9 => ?_) h
  obtain ⟨z_1, I_2, L_3, rfl, rfl, h⟩ := h9
  show am_Run am_X0 (am_meth d) 235 R 5 [some (.ref 113), some (.int a), some (.int b), some (.int v), none] [.int z_1] (am_mk I_2 L_3, 0, 0)
  obtain ⟨hA, hB⟩ := h
  refine ar_b0 am_c_ne (t := 14) (q := 8) rfl rfl rfl (fun c_4 => ?_) (fun c_4 => ?_)
  · have h := hA c_4
    clear hA hB
    refine ar_iload_n (j := 2) (q := 15) rfl rfl rfl rfl ?_
    obtain ⟨hA, hB⟩ := h
    refine ar_b0 am_c_lt (t := 22) (q := 18) rfl rfl rfl (fun c_5 => ?_) (fun c_5 => ?_)
    · have h := hA c_5
      clear hA hB
      refine ar_aload_n (j := 0) (q := 23) rfl rfl rfl rfl ?_
      refine ar_bipush (v := (-4 : Int32)) (q := 25) rfl rfl rfl ?_
      refine ar_invv (as := [.int (-4 : Int32)]) (rest := []) (b2 := (0, 0)) (b3 := (0, 0)) (q := 28) rfl rfl rfl rfl mk_113 rfl rfl rfl rfl rfl ?_
      refine am_meth_mono d _ _ _ _ _ (fun v9 m9 h9 => ?_) h
      obtain ⟨z_6, I_7, L_8, rfl, rfl, h⟩ := h9
      show am_Run am_X0 (am_meth d) 235 R 28 [some (.ref 113), some (.int a), some (.int b), some (.int v), none] [.int z_6] (am_mk I_7 L_8, 0, 0)
      exact ar_iret rfl rfl h
    · have h := hB c_5
      clear hA hB
      refine ar_iload_n (j := 3) (q := 19) rfl rfl rfl rfl ?_
      obtain ⟨hA, hB⟩ := h
      refine ar_b0 am_c_ge (t := 29) (q := 22) rfl rfl rfl (fun c_9 => ?_) (fun c_9 => ?_)
      · have h := hA c_9
        clear hA hB
        refine ar_iload_n (j := 2) (q := 30) rfl rfl rfl rfl ?_
        refine ar_bipush (v := 30) (q := 32) rfl rfl rfl ?_
        obtain ⟨hA, hB⟩ := h
        refine ar_br am_c_gt (t := 41) (q := 35) rfl rfl rfl (fun c_10 => ?_) (fun c_10 => ?_)
        · have h := hA c_10
          clear hA hB
          refine ar_aload_n (j := 0) (q := 42) rfl rfl rfl rfl ?_
          refine ar_bipush (v := (-6 : Int32)) (q := 44) rfl rfl rfl ?_
          refine ar_invv (as := [.int (-6 : Int32)]) (rest := []) (b2 := (0, 0)) (b3 := (0, 0)) (q := 47) rfl rfl rfl rfl mk_113 rfl rfl rfl rfl rfl ?_
          refine am_meth_mono d _ _ _ _ _ (fun v9 m9 h9 => ?_) h
          obtain ⟨z_11, I_12, L_13, rfl, rfl, h⟩ := h9
          show am_Run am_X0 (am_meth d) 235 R 47 [some (.ref 113), some (.int a), some (.int b), some (.int v), none] [.int z_11] (am_mk I_12 L_13, 0, 0)
          exact ar_iret rfl rfl h
        · have h := hB c_10
          clear hA hB
          refine ar_iload_n (j := 3) (q := 36) rfl rfl rfl rfl ?_
          refine ar_bipush (v := 9) (q := 38) rfl rfl rfl ?_
          obtain ⟨hA, hB⟩ := h
          refine ar_br am_c_le (t := 48) (q := 41) rfl rfl rfl (fun c_14 => ?_) (fun c_14 => ?_)
          · have h := hA c_14
            clear hA hB
            refine ar_aload_n (j := 0) (q := 49) rfl rfl rfl rfl ?_
            refine ar_getf (v := .ref 124) (q := 52) rfl rfl mk_113 rfl rfl ?_
            refine ar_iload_n (j := 1) (q := 53) rfl rfl rfl rfl ?_
            refine ar_bipush (v := 31) (q := 55) rfl rfl rfl ?_
            refine ar_ib (i := .imul) (z := a * 31) (q := 56) rfl rfl rfl rfl rfl ?_
            refine ar_iload_n (j := 2) (q := 57) rfl rfl rfl rfl ?_
            refine ar_ib (i := .iadd) (z := (a * 31) + b) (q := 58) rfl rfl rfl rfl rfl ?_
            obtain ⟨j_15, hx_16, hi_17, h⟩ := h
            refine ar_iald (v := I_2 124 j_15) (q := 59) rfl mk_124 (am_inE hi_17 hx_16 (by decide)) (am_clE hi_17 hx_16 (by decide)) rfl ?_
            refine ar_istore (ls' := [some (.ref 113), some (.int a), some (.int b), some (.int v), some (.int (I_2 124 j_15))]) (q := 61) rfl rfl rfl rfl ?_
            refine ar_aload_n (j := 0) (q := 62) rfl rfl rfl rfl ?_
            refine ar_getf (v := .ref 124) (q := 65) rfl rfl mk_113 rfl rfl ?_
            refine ar_iload_n (j := 1) (q := 66) rfl rfl rfl rfl ?_
            refine ar_bipush (v := 31) (q := 68) rfl rfl rfl ?_
            refine ar_ib (i := .imul) (z := a * 31) (q := 69) rfl rfl rfl rfl rfl ?_
            refine ar_iload_n (j := 2) (q := 70) rfl rfl rfl rfl ?_
            refine ar_ib (i := .iadd) (z := (a * 31) + b) (q := 71) rfl rfl rfl rfl rfl ?_
            refine ar_iload_n (j := 3) (q := 72) rfl rfl rfl rfl ?_
            obtain ⟨j_18, hx_19, hi_20, h⟩ := h
            obtain ⟨I_21, hI_22⟩ : ∃ z : Nat → Nat → Int32, z = va_up I_2 124 (upd (I_2 124) j_18 v) := ⟨_, rfl⟩
            have h := h I_21 hI_22
            refine ar_iast (hp2 := am_mk I_21 L_3) (q := 73) rfl mk_124 (am_inE hi_20 hx_19 (by decide)) (by rw [am_clT hi_20 hx_19 (by decide), hI_22]; exact mk_s124) rfl ?_
            refine ar_iload (q := 75) rfl rfl rfl ?_
            exact ar_iret rfl rfl h
          · have h := hB c_14
            clear hA hB
            refine ar_aload_n (j := 0) (q := 42) rfl rfl rfl rfl ?_
            refine ar_bipush (v := (-6 : Int32)) (q := 44) rfl rfl rfl ?_
            refine ar_invv (as := [.int (-6 : Int32)]) (rest := []) (b2 := (0, 0)) (b3 := (0, 0)) (q := 47) rfl rfl rfl rfl mk_113 rfl rfl rfl rfl rfl ?_
            refine am_meth_mono d _ _ _ _ _ (fun v9 m9 h9 => ?_) h
            obtain ⟨z_23, I_24, L_25, rfl, rfl, h⟩ := h9
            show am_Run am_X0 (am_meth d) 235 R 47 [some (.ref 113), some (.int a), some (.int b), some (.int v), none] [.int z_23] (am_mk I_24 L_25, 0, 0)
            exact ar_iret rfl rfl h
      · have h := hB c_9
        clear hA hB
        refine ar_aload_n (j := 0) (q := 23) rfl rfl rfl rfl ?_
        refine ar_bipush (v := (-4 : Int32)) (q := 25) rfl rfl rfl ?_
        refine ar_invv (as := [.int (-4 : Int32)]) (rest := []) (b2 := (0, 0)) (b3 := (0, 0)) (q := 28) rfl rfl rfl rfl mk_113 rfl rfl rfl rfl rfl ?_
        refine am_meth_mono d _ _ _ _ _ (fun v9 m9 h9 => ?_) h
        obtain ⟨z_26, I_27, L_28, rfl, rfl, h⟩ := h9
        show am_Run am_X0 (am_meth d) 235 R 28 [some (.ref 113), some (.int a), some (.int b), some (.int v), none] [.int z_26] (am_mk I_27 L_28, 0, 0)
        exact ar_iret rfl rfl h
  · have h := hB c_4
    clear hA hB
    refine ar_aload_n (j := 0) (q := 9) rfl rfl rfl rfl ?_
    refine ar_iconst (v := (-1 : Int32)) (q := 10) rfl rfl rfl ?_
    refine ar_invv (as := [.int (-1 : Int32)]) (rest := []) (b2 := (0, 0)) (b3 := (0, 0)) (q := 13) rfl rfl rfl rfl mk_113 rfl rfl rfl rfl rfl ?_
    refine am_meth_mono d _ _ _ _ _ (fun v9 m9 h9 => ?_) h
    obtain ⟨z_29, I_30, L_31, rfl, rfl, h⟩ := h9
    show am_Run am_X0 (am_meth d) 235 R 13 [some (.ref 113), some (.int a), some (.int b), some (.int v), none] [.int z_29] (am_mk I_30 L_31, 0, 0)
    exact ar_iret rfl rfl h
theorem r_M_goneOf_0 {d : Nat} {R : am_R} {I : Nat → Nat → Int32} {L : Nat → Nat → Int64} {s : Nat} (h : ∃ j_1 : Nat, j_1 < 120 ∧ 2 * (nI s) = nI j_1 ∧ ((((I 132 j_1) < 0 → (R (some (.int (-9 : Int32))) (am_mk I L, 0, 0))) ∧ (¬ ((I 132 j_1) < 0) → (∃ j_5 : Nat, j_5 < 120 ∧ (2 * (nI s)) + 1 = nI j_5 ∧ (((0 ≤ (I 132 j_5) → (∃ j_9 : Nat, j_9 < 120 ∧ 2 * (nI s) = nI j_9 ∧ (∃ j_12 : Nat, j_12 < 120 ∧ (2 * (nI s)) + 1 = nI j_12 ∧ (R (some (.int ((I 132 j_9) &&& ((I 132 j_12) ^^^ (-1 : Int32))))) (am_mk I L, 0, 0))))) ∧ (¬ (0 ≤ (I 132 j_5)) → (R (some (.int (-9 : Int32))) (am_mk I L, 0, 0)))))))))) : am_Run am_X0 (am_meth d) 237 R 0 [some (.ref 113), some (.int (nI s))] [] (am_mk I L, 0, 0) := by
  refine ar_aload_n (j := 0) (q := 1) rfl rfl rfl rfl ?_
  refine ar_getf (v := .ref 132) (q := 4) rfl rfl mk_113 rfl rfl ?_
  refine ar_iconst (v := 2) (q := 5) rfl rfl rfl ?_
  refine ar_iload_n (j := 1) (q := 6) rfl rfl rfl rfl ?_
  refine ar_ib (i := .imul) (z := 2 * (nI s)) (q := 7) rfl rfl rfl rfl rfl ?_
  obtain ⟨j_1, hx_2, hi_3, h⟩ := h
  refine ar_iald (v := I 132 j_1) (q := 8) rfl mk_132 (am_inE hi_3 hx_2 (by decide)) (am_clE hi_3 hx_2 (by decide)) rfl ?_
  obtain ⟨hA, hB⟩ := h
  refine ar_b0 am_c_lt (t := 24) (q := 11) rfl rfl rfl (fun c_4 => ?_) (fun c_4 => ?_)
  · have h := hA c_4
    clear hA hB
    refine ar_bipush (v := (-9 : Int32)) (q := 26) rfl rfl rfl ?_
    exact ar_iret rfl rfl h
  · have h := hB c_4
    clear hA hB
    refine ar_aload_n (j := 0) (q := 12) rfl rfl rfl rfl ?_
    refine ar_getf (v := .ref 132) (q := 15) rfl rfl mk_113 rfl rfl ?_
    refine ar_iconst (v := 2) (q := 16) rfl rfl rfl ?_
    refine ar_iload_n (j := 1) (q := 17) rfl rfl rfl rfl ?_
    refine ar_ib (i := .imul) (z := 2 * (nI s)) (q := 18) rfl rfl rfl rfl rfl ?_
    refine ar_iconst (v := 1) (q := 19) rfl rfl rfl ?_
    refine ar_ib (i := .iadd) (z := (2 * (nI s)) + 1) (q := 20) rfl rfl rfl rfl rfl ?_
    obtain ⟨j_5, hx_6, hi_7, h⟩ := h
    refine ar_iald (v := I 132 j_5) (q := 21) rfl mk_132 (am_inE hi_7 hx_6 (by decide)) (am_clE hi_7 hx_6 (by decide)) rfl ?_
    obtain ⟨hA, hB⟩ := h
    refine ar_b0 am_c_ge (t := 27) (q := 24) rfl rfl rfl (fun c_8 => ?_) (fun c_8 => ?_)
    · have h := hA c_8
      clear hA hB
      refine ar_aload_n (j := 0) (q := 28) rfl rfl rfl rfl ?_
      refine ar_getf (v := .ref 132) (q := 31) rfl rfl mk_113 rfl rfl ?_
      refine ar_iconst (v := 2) (q := 32) rfl rfl rfl ?_
      refine ar_iload_n (j := 1) (q := 33) rfl rfl rfl rfl ?_
      refine ar_ib (i := .imul) (z := 2 * (nI s)) (q := 34) rfl rfl rfl rfl rfl ?_
      obtain ⟨j_9, hx_10, hi_11, h⟩ := h
      refine ar_iald (v := I 132 j_9) (q := 35) rfl mk_132 (am_inE hi_11 hx_10 (by decide)) (am_clE hi_11 hx_10 (by decide)) rfl ?_
      refine ar_aload_n (j := 0) (q := 36) rfl rfl rfl rfl ?_
      refine ar_getf (v := .ref 132) (q := 39) rfl rfl mk_113 rfl rfl ?_
      refine ar_iconst (v := 2) (q := 40) rfl rfl rfl ?_
      refine ar_iload_n (j := 1) (q := 41) rfl rfl rfl rfl ?_
      refine ar_ib (i := .imul) (z := 2 * (nI s)) (q := 42) rfl rfl rfl rfl rfl ?_
      refine ar_iconst (v := 1) (q := 43) rfl rfl rfl ?_
      refine ar_ib (i := .iadd) (z := (2 * (nI s)) + 1) (q := 44) rfl rfl rfl rfl rfl ?_
      obtain ⟨j_12, hx_13, hi_14, h⟩ := h
      refine ar_iald (v := I 132 j_12) (q := 45) rfl mk_132 (am_inE hi_14 hx_13 (by decide)) (am_clE hi_14 hx_13 (by decide)) rfl ?_
      refine ar_iconst (v := (-1 : Int32)) (q := 46) rfl rfl rfl ?_
      refine ar_ib (i := .ixor) (z := (I 132 j_12) ^^^ (-1 : Int32)) (q := 47) rfl rfl rfl rfl rfl ?_
      refine ar_ib (i := .iand) (z := (I 132 j_9) &&& ((I 132 j_12) ^^^ (-1 : Int32))) (q := 48) rfl rfl rfl rfl rfl ?_
      exact ar_iret rfl rfl h
    · have h := hB c_8
      clear hA hB
      refine ar_bipush (v := (-9 : Int32)) (q := 26) rfl rfl rfl ?_
      exact ar_iret rfl rfl h
theorem r_M_gone_0 {d : Nat} {R : am_R} {I : Nat → Nat → Int32} {L : Nat → Nat → Int64} {s : Int32} (h : am_meth d 161 [.ref 113, .int s] (am_mk I L, 0, 0) (am_ri (fun z_1 I_2 L_3 => ((¬ z_1 = 0 → (am_meth d 237 [.ref 113, .int s] (am_mk I_2 L_3, 0, 0) (am_ri (fun z_5 I_6 L_7 => R (some (.int z_5)) (am_mk I_6 L_7, 0, 0))))) ∧ (¬ (¬ z_1 = 0) → (am_meth d 151 [.ref 113, .int (-1 : Int32)] (am_mk I_2 L_3, 0, 0) (am_ri (fun z_8 I_9 L_10 => R (some (.int z_8)) (am_mk I_9 L_10, 0, 0))))))))) : am_Run am_X0 (am_meth d) 236 R 0 [some (.ref 113), some (.int s)] [] (am_mk I L, 0, 0) := by
  refine ar_aload_n (j := 0) (q := 1) rfl rfl rfl rfl ?_
  refine ar_iload_n (j := 1) (q := 2) rfl rfl rfl rfl ?_
  refine ar_invv (as := [.int s]) (rest := []) (b2 := (0, 0)) (b3 := (0, 0)) (q := 5) rfl rfl rfl rfl mk_113 rfl rfl rfl rfl rfl ?_
  refine am_meth_mono d _ _ _ _ _ (fun v9 m9 h9 => ?_) h
  obtain ⟨z_1, I_2, L_3, rfl, rfl, h⟩ := h9
  show am_Run am_X0 (am_meth d) 236 R 5 [some (.ref 113), some (.int s)] [.int z_1] (am_mk I_2 L_3, 0, 0)
  obtain ⟨hA, hB⟩ := h
  refine ar_b0 am_c_ne (t := 14) (q := 8) rfl rfl rfl (fun c_4 => ?_) (fun c_4 => ?_)
  · have h := hA c_4
    clear hA hB
    refine ar_aload_n (j := 0) (q := 15) rfl rfl rfl rfl ?_
    refine ar_iload_n (j := 1) (q := 16) rfl rfl rfl rfl ?_
    refine ar_invv (as := [.int s]) (rest := []) (b2 := (0, 0)) (b3 := (0, 0)) (q := 19) rfl rfl rfl rfl mk_113 rfl rfl rfl rfl rfl ?_
    refine am_meth_mono d _ _ _ _ _ (fun v9 m9 h9 => ?_) h
    obtain ⟨z_5, I_6, L_7, rfl, rfl, h⟩ := h9
    show am_Run am_X0 (am_meth d) 236 R 19 [some (.ref 113), some (.int s)] [.int z_5] (am_mk I_6 L_7, 0, 0)
    exact ar_iret rfl rfl h
  · have h := hB c_4
    clear hA hB
    refine ar_aload_n (j := 0) (q := 9) rfl rfl rfl rfl ?_
    refine ar_iconst (v := (-1 : Int32)) (q := 10) rfl rfl rfl ?_
    refine ar_invv (as := [.int (-1 : Int32)]) (rest := []) (b2 := (0, 0)) (b3 := (0, 0)) (q := 13) rfl rfl rfl rfl mk_113 rfl rfl rfl rfl rfl ?_
    refine am_meth_mono d _ _ _ _ _ (fun v9 m9 h9 => ?_) h
    obtain ⟨z_8, I_9, L_10, rfl, rfl, h⟩ := h9
    show am_Run am_X0 (am_meth d) 236 R 13 [some (.ref 113), some (.int s)] [.int z_8] (am_mk I_9 L_10, 0, 0)
    exact ar_iret rfl rfl h
theorem r_M_list_0 {d : Nat} {R : am_R} {I : Nat → Nat → Int32} {L : Nat → Nat → Int64} {s : Int32} {a : Int32} {x : Int32} (h : am_meth d 161 [.ref 113, .int s] (am_mk I L, 0, 0) (am_ri (fun z_1 I_2 L_3 => ((¬ z_1 = 0 → (∃ j_5 : Nat, j_5 < 60 ∧ s = nI j_5 ∧ (((¬ (I_2 128 j_5) = 1 → (am_meth d 151 [.ref 113, .int (-3 : Int32)] (am_mk I_2 L_3, 0, 0) (am_ri (fun z_9 I_10 L_11 => R (some (.int z_9)) (am_mk I_10 L_11, 0, 0))))) ∧ (¬ (¬ (I_2 128 j_5) = 1) → (((¬ a = 0 → (((a = 0 → (((0 ≤ x → (((a = 0 → (∃ j_16 : Nat, j_16 < 120 ∧ 2 * s = nI j_16 ∧ ((((I_2 132 j_16) < 0 → (∃ j_20 : Nat, j_20 < 120 ∧ 2 * s = nI j_20 ∧ (∀ I_23 : Nat → Nat → Int32, I_23 = va_up I_2 132 (upd (I_2 132) j_20 x) → (R (some (.int 1)) (am_mk I_23 L_3, 0, 0))))) ∧ (¬ ((I_2 132 j_16) < 0) → (∃ j_25 : Nat, j_25 < 120 ∧ 2 * s = nI j_25 ∧ (∀ I_28 : Nat → Nat → Int32, I_28 = va_up I_2 132 (upd (I_2 132) j_25 x) → (R (some (.int 0)) (am_mk I_28 L_3, 0, 0))))))))) ∧ (¬ (a = 0) → (∃ j_30 : Nat, j_30 < 120 ∧ (2 * s) + 1 = nI j_30 ∧ ((((I_2 132 j_30) < 0 → (∃ j_34 : Nat, j_34 < 120 ∧ (2 * s) + 1 = nI j_34 ∧ (∀ I_37 : Nat → Nat → Int32, I_37 = va_up I_2 132 (upd (I_2 132) j_34 x) → (R (some (.int 1)) (am_mk I_37 L_3, 0, 0))))) ∧ (¬ ((I_2 132 j_30) < 0) → (∃ j_39 : Nat, j_39 < 120 ∧ (2 * s) + 1 = nI j_39 ∧ (∀ I_42 : Nat → Nat → Int32, I_42 = va_up I_2 132 (upd (I_2 132) j_39 x) → (R (some (.int 0)) (am_mk I_42 L_3, 0, 0)))))))))))) ∧ (¬ (0 ≤ x) → (am_meth d 151 [.ref 113, .int (-4 : Int32)] (am_mk I_2 L_3, 0, 0) (am_ri (fun z_44 I_45 L_46 => R (some (.int z_44)) (am_mk I_45 L_46, 0, 0)))))))) ∧ (¬ (a = 0) → (am_meth d 162 [.ref 113, .int s] (am_mk I_2 L_3, 0, 0) (am_ri (fun z_47 I_48 L_49 => ((¬ z_47 = 0 → (((0 ≤ x → (((a = 0 → (∃ j_53 : Nat, j_53 < 120 ∧ 2 * s = nI j_53 ∧ ((((I_48 132 j_53) < 0 → (∃ j_57 : Nat, j_57 < 120 ∧ 2 * s = nI j_57 ∧ (∀ I_60 : Nat → Nat → Int32, I_60 = va_up I_48 132 (upd (I_48 132) j_57 x) → (R (some (.int 1)) (am_mk I_60 L_49, 0, 0))))) ∧ (¬ ((I_48 132 j_53) < 0) → (∃ j_62 : Nat, j_62 < 120 ∧ 2 * s = nI j_62 ∧ (∀ I_65 : Nat → Nat → Int32, I_65 = va_up I_48 132 (upd (I_48 132) j_62 x) → (R (some (.int 0)) (am_mk I_65 L_49, 0, 0))))))))) ∧ (¬ (a = 0) → (∃ j_67 : Nat, j_67 < 120 ∧ (2 * s) + 1 = nI j_67 ∧ ((((I_48 132 j_67) < 0 → (∃ j_71 : Nat, j_71 < 120 ∧ (2 * s) + 1 = nI j_71 ∧ (∀ I_74 : Nat → Nat → Int32, I_74 = va_up I_48 132 (upd (I_48 132) j_71 x) → (R (some (.int 1)) (am_mk I_74 L_49, 0, 0))))) ∧ (¬ ((I_48 132 j_67) < 0) → (∃ j_76 : Nat, j_76 < 120 ∧ (2 * s) + 1 = nI j_76 ∧ (∀ I_79 : Nat → Nat → Int32, I_79 = va_up I_48 132 (upd (I_48 132) j_76 x) → (R (some (.int 0)) (am_mk I_79 L_49, 0, 0)))))))))))) ∧ (¬ (0 ≤ x) → (am_meth d 151 [.ref 113, .int (-4 : Int32)] (am_mk I_48 L_49, 0, 0) (am_ri (fun z_81 I_82 L_83 => R (some (.int z_81)) (am_mk I_82 L_83, 0, 0)))))))) ∧ (¬ (¬ z_47 = 0) → (am_meth d 151 [.ref 113, .int (-3 : Int32)] (am_mk I_48 L_49, 0, 0) (am_ri (fun z_84 I_85 L_86 => R (some (.int z_84)) (am_mk I_85 L_86, 0, 0))))))))))))) ∧ (¬ (¬ a = 0) → (∃ j_87 : Nat, j_87 < 60 ∧ s = nI j_87 ∧ ((((I_2 126 j_87) < (I_2 113 0) → (am_meth d 151 [.ref 113, .int (-3 : Int32)] (am_mk I_2 L_3, 0, 0) (am_ri (fun z_91 I_92 L_93 => R (some (.int z_91)) (am_mk I_92 L_93, 0, 0))))) ∧ (¬ ((I_2 126 j_87) < (I_2 113 0)) → (((a = 0 → (((0 ≤ x → (((a = 0 → (∃ j_97 : Nat, j_97 < 120 ∧ 2 * s = nI j_97 ∧ ((((I_2 132 j_97) < 0 → (∃ j_101 : Nat, j_101 < 120 ∧ 2 * s = nI j_101 ∧ (∀ I_104 : Nat → Nat → Int32, I_104 = va_up I_2 132 (upd (I_2 132) j_101 x) → (R (some (.int 1)) (am_mk I_104 L_3, 0, 0))))) ∧ (¬ ((I_2 132 j_97) < 0) → (∃ j_106 : Nat, j_106 < 120 ∧ 2 * s = nI j_106 ∧ (∀ I_109 : Nat → Nat → Int32, I_109 = va_up I_2 132 (upd (I_2 132) j_106 x) → (R (some (.int 0)) (am_mk I_109 L_3, 0, 0))))))))) ∧ (¬ (a = 0) → (∃ j_111 : Nat, j_111 < 120 ∧ (2 * s) + 1 = nI j_111 ∧ ((((I_2 132 j_111) < 0 → (∃ j_115 : Nat, j_115 < 120 ∧ (2 * s) + 1 = nI j_115 ∧ (∀ I_118 : Nat → Nat → Int32, I_118 = va_up I_2 132 (upd (I_2 132) j_115 x) → (R (some (.int 1)) (am_mk I_118 L_3, 0, 0))))) ∧ (¬ ((I_2 132 j_111) < 0) → (∃ j_120 : Nat, j_120 < 120 ∧ (2 * s) + 1 = nI j_120 ∧ (∀ I_123 : Nat → Nat → Int32, I_123 = va_up I_2 132 (upd (I_2 132) j_120 x) → (R (some (.int 0)) (am_mk I_123 L_3, 0, 0)))))))))))) ∧ (¬ (0 ≤ x) → (am_meth d 151 [.ref 113, .int (-4 : Int32)] (am_mk I_2 L_3, 0, 0) (am_ri (fun z_125 I_126 L_127 => R (some (.int z_125)) (am_mk I_126 L_127, 0, 0)))))))) ∧ (¬ (a = 0) → (am_meth d 162 [.ref 113, .int s] (am_mk I_2 L_3, 0, 0) (am_ri (fun z_128 I_129 L_130 => ((¬ z_128 = 0 → (((0 ≤ x → (((a = 0 → (∃ j_134 : Nat, j_134 < 120 ∧ 2 * s = nI j_134 ∧ ((((I_129 132 j_134) < 0 → (∃ j_138 : Nat, j_138 < 120 ∧ 2 * s = nI j_138 ∧ (∀ I_141 : Nat → Nat → Int32, I_141 = va_up I_129 132 (upd (I_129 132) j_138 x) → (R (some (.int 1)) (am_mk I_141 L_130, 0, 0))))) ∧ (¬ ((I_129 132 j_134) < 0) → (∃ j_143 : Nat, j_143 < 120 ∧ 2 * s = nI j_143 ∧ (∀ I_146 : Nat → Nat → Int32, I_146 = va_up I_129 132 (upd (I_129 132) j_143 x) → (R (some (.int 0)) (am_mk I_146 L_130, 0, 0))))))))) ∧ (¬ (a = 0) → (∃ j_148 : Nat, j_148 < 120 ∧ (2 * s) + 1 = nI j_148 ∧ ((((I_129 132 j_148) < 0 → (∃ j_152 : Nat, j_152 < 120 ∧ (2 * s) + 1 = nI j_152 ∧ (∀ I_155 : Nat → Nat → Int32, I_155 = va_up I_129 132 (upd (I_129 132) j_152 x) → (R (some (.int 1)) (am_mk I_155 L_130, 0, 0))))) ∧ (¬ ((I_129 132 j_148) < 0) → (∃ j_157 : Nat, j_157 < 120 ∧ (2 * s) + 1 = nI j_157 ∧ (∀ I_160 : Nat → Nat → Int32, I_160 = va_up I_129 132 (upd (I_129 132) j_157 x) → (R (some (.int 0)) (am_mk I_160 L_130, 0, 0)))))))))))) ∧ (¬ (0 ≤ x) → (am_meth d 151 [.ref 113, .int (-4 : Int32)] (am_mk I_129 L_130, 0, 0) (am_ri (fun z_162 I_163 L_164 => R (some (.int z_162)) (am_mk I_163 L_164, 0, 0)))))))) ∧ (¬ (¬ z_128 = 0) → (am_meth d 151 [.ref 113, .int (-3 : Int32)] (am_mk I_129 L_130, 0, 0) (am_ri (fun z_165 I_166 L_167 => R (some (.int z_165)) (am_mk I_166 L_167, 0, 0)))))))))))))))))))))))) ∧ (¬ (¬ z_1 = 0) → (am_meth d 151 [.ref 113, .int (-1 : Int32)] (am_mk I_2 L_3, 0, 0) (am_ri (fun z_168 I_169 L_170 => R (some (.int z_168)) (am_mk I_169 L_170, 0, 0))))))))) : am_Run am_X0 (am_meth d) 234 R 0 [some (.ref 113), some (.int s), some (.int a), some (.int x), none, none] [] (am_mk I L, 0, 0) := by
  refine ar_aload_n (j := 0) (q := 1) rfl rfl rfl rfl ?_
  refine ar_iload_n (j := 1) (q := 2) rfl rfl rfl rfl ?_
  refine ar_invv (as := [.int s]) (rest := []) (b2 := (0, 0)) (b3 := (0, 0)) (q := 5) rfl rfl rfl rfl mk_113 rfl rfl rfl rfl rfl ?_
  refine am_meth_mono d _ _ _ _ _ (fun v9 m9 h9 => ?_) h
  obtain ⟨z_1, I_2, L_3, rfl, rfl, h⟩ := h9
  show am_Run am_X0 (am_meth d) 234 R 5 [some (.ref 113), some (.int s), some (.int a), some (.int x), none, none] [.int z_1] (am_mk I_2 L_3, 0, 0)
  obtain ⟨hA, hB⟩ := h
  refine ar_b0 am_c_ne (t := 14) (q := 8) rfl rfl rfl (fun c_4 => ?_) (fun c_4 => ?_)
  · have h := hA c_4
    clear hA hB
    refine ar_aload_n (j := 0) (q := 15) rfl rfl rfl rfl ?_
    refine ar_getf (v := .ref 128) (q := 18) rfl rfl mk_113 rfl rfl ?_
    refine ar_iload_n (j := 1) (q := 19) rfl rfl rfl rfl ?_
    obtain ⟨j_5, hx_6, hi_7, h⟩ := h
    refine ar_iald (v := I_2 128 j_5) (q := 20) rfl mk_128 (am_inE hi_7 hx_6 (by decide)) (am_clE hi_7 hx_6 (by decide)) rfl ?_
    refine ar_iconst (v := 1) (q := 21) rfl rfl rfl ?_
    obtain ⟨hA, hB⟩ := h
    refine ar_br am_c_ne (t := 53) (q := 24) rfl rfl rfl (fun c_8 => ?_) (fun c_8 => ?_)
    · have h := hA c_8
      clear hA hB
      refine ar_aload_n (j := 0) (q := 54) rfl rfl rfl rfl ?_
      refine ar_bipush (v := (-3 : Int32)) (q := 56) rfl rfl rfl ?_
      refine ar_invv (as := [.int (-3 : Int32)]) (rest := []) (b2 := (0, 0)) (b3 := (0, 0)) (q := 59) rfl rfl rfl rfl mk_113 rfl rfl rfl rfl rfl ?_
      refine am_meth_mono d _ _ _ _ _ (fun v9 m9 h9 => ?_) h
      obtain ⟨z_9, I_10, L_11, rfl, rfl, h⟩ := h9
      show am_Run am_X0 (am_meth d) 234 R 59 [some (.ref 113), some (.int s), some (.int a), some (.int x), none, none] [.int z_9] (am_mk I_10 L_11, 0, 0)
      exact ar_iret rfl rfl h
    · have h := hB c_8
      clear hA hB
      refine ar_iload_n (j := 2) (q := 25) rfl rfl rfl rfl ?_
      obtain ⟨hA, hB⟩ := h
      refine ar_b0 am_c_ne (t := 41) (q := 28) rfl rfl rfl (fun c_12 => ?_) (fun c_12 => ?_)
      · have h := hA c_12
        clear hA hB
        refine ar_iload_n (j := 2) (q := 42) rfl rfl rfl rfl ?_
        obtain ⟨hA, hB⟩ := h
        refine ar_b0 am_c_eq (t := 60) (q := 45) rfl rfl rfl (fun c_13 => ?_) (fun c_13 => ?_)
        · have h := hA c_13
          clear hA hB
          refine ar_iload_n (j := 3) (q := 61) rfl rfl rfl rfl ?_
          obtain ⟨hA, hB⟩ := h
          refine ar_b0 am_c_ge (t := 71) (q := 64) rfl rfl rfl (fun c_14 => ?_) (fun c_14 => ?_)
          · have h := hA c_14
            clear hA hB
            refine ar_iload_n (j := 2) (q := 72) rfl rfl rfl rfl ?_
            obtain ⟨hA, hB⟩ := h
            refine ar_b0 am_c_eq (t := 83) (q := 75) rfl rfl rfl (fun c_15 => ?_) (fun c_15 => ?_)
            · have h := hA c_15
              clear hA hB
              refine ar_iconst (v := 2) (q := 84) rfl rfl rfl ?_
              refine ar_iload_n (j := 1) (q := 85) rfl rfl rfl rfl ?_
              refine ar_ib (i := .imul) (z := 2 * s) (q := 86) rfl rfl rfl rfl rfl ?_
              refine ar_istore (ls' := [some (.ref 113), some (.int s), some (.int a), some (.int x), some (.int (2 * s)), none]) (q := 88) rfl rfl rfl rfl ?_
              refine ar_aload_n (j := 0) (q := 89) rfl rfl rfl rfl ?_
              refine ar_getf (v := .ref 132) (q := 92) rfl rfl mk_113 rfl rfl ?_
              refine ar_iload (q := 94) rfl rfl rfl ?_
              obtain ⟨j_16, hx_17, hi_18, h⟩ := h
              refine ar_iald (v := I_2 132 j_16) (q := 95) rfl mk_132 (am_inE hi_18 hx_17 (by decide)) (am_clE hi_18 hx_17 (by decide)) rfl ?_
              obtain ⟨hA, hB⟩ := h
              refine ar_b0 am_c_lt (t := 102) (q := 98) rfl rfl rfl (fun c_19 => ?_) (fun c_19 => ?_)
              · have h := hA c_19
                clear hA hB
                refine ar_iconst (v := 0) (q := 103) rfl rfl rfl ?_
                refine ar_istore (ls' := [some (.ref 113), some (.int s), some (.int a), some (.int x), some (.int (2 * s)), some (.int 0)]) (q := 105) rfl rfl rfl rfl ?_
                refine ar_aload_n (j := 0) (q := 106) rfl rfl rfl rfl ?_
                refine ar_getf (v := .ref 132) (q := 109) rfl rfl mk_113 rfl rfl ?_
                refine ar_iload (q := 111) rfl rfl rfl ?_
                refine ar_iload_n (j := 3) (q := 112) rfl rfl rfl rfl ?_
                obtain ⟨j_20, hx_21, hi_22, h⟩ := h
                obtain ⟨I_23, hI_24⟩ : ∃ z : Nat → Nat → Int32, z = va_up I_2 132 (upd (I_2 132) j_20 x) := ⟨_, rfl⟩
                have h := h I_23 hI_24
                refine ar_iast (hp2 := am_mk I_23 L_3) (q := 113) rfl mk_132 (am_inE hi_22 hx_21 (by decide)) (by rw [am_clT hi_22 hx_21 (by decide), hI_24]; exact mk_s132) rfl ?_
                refine ar_iload (q := 115) rfl rfl rfl ?_
                refine ar_b0 am_c_eq (t := 122) (q := 118) rfl rfl rfl (fun _ => ?_) (fun c9 => absurd (by decide) c9)
                refine ar_iconst (v := 1) (q := 123) rfl rfl rfl ?_
                exact ar_iret rfl rfl h
              · have h := hB c_19
                clear hA hB
                refine ar_iconst (v := 1) (q := 99) rfl rfl rfl ?_
                refine ar_goto (t := 103) rfl rfl ?_
                refine ar_istore (ls' := [some (.ref 113), some (.int s), some (.int a), some (.int x), some (.int (2 * s)), some (.int 1)]) (q := 105) rfl rfl rfl rfl ?_
                refine ar_aload_n (j := 0) (q := 106) rfl rfl rfl rfl ?_
                refine ar_getf (v := .ref 132) (q := 109) rfl rfl mk_113 rfl rfl ?_
                refine ar_iload (q := 111) rfl rfl rfl ?_
                refine ar_iload_n (j := 3) (q := 112) rfl rfl rfl rfl ?_
                obtain ⟨j_25, hx_26, hi_27, h⟩ := h
                obtain ⟨I_28, hI_29⟩ : ∃ z : Nat → Nat → Int32, z = va_up I_2 132 (upd (I_2 132) j_25 x) := ⟨_, rfl⟩
                have h := h I_28 hI_29
                refine ar_iast (hp2 := am_mk I_28 L_3) (q := 113) rfl mk_132 (am_inE hi_27 hx_26 (by decide)) (by rw [am_clT hi_27 hx_26 (by decide), hI_29]; exact mk_s132) rfl ?_
                refine ar_iload (q := 115) rfl rfl rfl ?_
                refine ar_b0 am_c_eq (t := 122) (q := 118) rfl rfl rfl (fun c9 => absurd c9 (by decide)) (fun _ => ?_)
                refine ar_iconst (v := 0) (q := 119) rfl rfl rfl ?_
                refine ar_goto (t := 123) rfl rfl ?_
                exact ar_iret rfl rfl h
            · have h := hB c_15
              clear hA hB
              refine ar_iconst (v := 2) (q := 76) rfl rfl rfl ?_
              refine ar_iload_n (j := 1) (q := 77) rfl rfl rfl rfl ?_
              refine ar_ib (i := .imul) (z := 2 * s) (q := 78) rfl rfl rfl rfl rfl ?_
              refine ar_iconst (v := 1) (q := 79) rfl rfl rfl ?_
              refine ar_ib (i := .iadd) (z := (2 * s) + 1) (q := 80) rfl rfl rfl rfl rfl ?_
              refine ar_goto (t := 86) rfl rfl ?_
              refine ar_istore (ls' := [some (.ref 113), some (.int s), some (.int a), some (.int x), some (.int ((2 * s) + 1)), none]) (q := 88) rfl rfl rfl rfl ?_
              refine ar_aload_n (j := 0) (q := 89) rfl rfl rfl rfl ?_
              refine ar_getf (v := .ref 132) (q := 92) rfl rfl mk_113 rfl rfl ?_
              refine ar_iload (q := 94) rfl rfl rfl ?_
              obtain ⟨j_30, hx_31, hi_32, h⟩ := h
              refine ar_iald (v := I_2 132 j_30) (q := 95) rfl mk_132 (am_inE hi_32 hx_31 (by decide)) (am_clE hi_32 hx_31 (by decide)) rfl ?_
              obtain ⟨hA, hB⟩ := h
              refine ar_b0 am_c_lt (t := 102) (q := 98) rfl rfl rfl (fun c_33 => ?_) (fun c_33 => ?_)
              · have h := hA c_33
                clear hA hB
                refine ar_iconst (v := 0) (q := 103) rfl rfl rfl ?_
                refine ar_istore (ls' := [some (.ref 113), some (.int s), some (.int a), some (.int x), some (.int ((2 * s) + 1)), some (.int 0)]) (q := 105) rfl rfl rfl rfl ?_
                refine ar_aload_n (j := 0) (q := 106) rfl rfl rfl rfl ?_
                refine ar_getf (v := .ref 132) (q := 109) rfl rfl mk_113 rfl rfl ?_
                refine ar_iload (q := 111) rfl rfl rfl ?_
                refine ar_iload_n (j := 3) (q := 112) rfl rfl rfl rfl ?_
                obtain ⟨j_34, hx_35, hi_36, h⟩ := h
                obtain ⟨I_37, hI_38⟩ : ∃ z : Nat → Nat → Int32, z = va_up I_2 132 (upd (I_2 132) j_34 x) := ⟨_, rfl⟩
                have h := h I_37 hI_38
                refine ar_iast (hp2 := am_mk I_37 L_3) (q := 113) rfl mk_132 (am_inE hi_36 hx_35 (by decide)) (by rw [am_clT hi_36 hx_35 (by decide), hI_38]; exact mk_s132) rfl ?_
                refine ar_iload (q := 115) rfl rfl rfl ?_
                refine ar_b0 am_c_eq (t := 122) (q := 118) rfl rfl rfl (fun _ => ?_) (fun c9 => absurd (by decide) c9)
                refine ar_iconst (v := 1) (q := 123) rfl rfl rfl ?_
                exact ar_iret rfl rfl h
              · have h := hB c_33
                clear hA hB
                refine ar_iconst (v := 1) (q := 99) rfl rfl rfl ?_
                refine ar_goto (t := 103) rfl rfl ?_
                refine ar_istore (ls' := [some (.ref 113), some (.int s), some (.int a), some (.int x), some (.int ((2 * s) + 1)), some (.int 1)]) (q := 105) rfl rfl rfl rfl ?_
                refine ar_aload_n (j := 0) (q := 106) rfl rfl rfl rfl ?_
                refine ar_getf (v := .ref 132) (q := 109) rfl rfl mk_113 rfl rfl ?_
                refine ar_iload (q := 111) rfl rfl rfl ?_
                refine ar_iload_n (j := 3) (q := 112) rfl rfl rfl rfl ?_
                obtain ⟨j_39, hx_40, hi_41, h⟩ := h
                obtain ⟨I_42, hI_43⟩ : ∃ z : Nat → Nat → Int32, z = va_up I_2 132 (upd (I_2 132) j_39 x) := ⟨_, rfl⟩
                have h := h I_42 hI_43
                refine ar_iast (hp2 := am_mk I_42 L_3) (q := 113) rfl mk_132 (am_inE hi_41 hx_40 (by decide)) (by rw [am_clT hi_41 hx_40 (by decide), hI_43]; exact mk_s132) rfl ?_
                refine ar_iload (q := 115) rfl rfl rfl ?_
                refine ar_b0 am_c_eq (t := 122) (q := 118) rfl rfl rfl (fun c9 => absurd c9 (by decide)) (fun _ => ?_)
                refine ar_iconst (v := 0) (q := 119) rfl rfl rfl ?_
                refine ar_goto (t := 123) rfl rfl ?_
                exact ar_iret rfl rfl h
          · have h := hB c_14
            clear hA hB
            refine ar_aload_n (j := 0) (q := 65) rfl rfl rfl rfl ?_
            refine ar_bipush (v := (-4 : Int32)) (q := 67) rfl rfl rfl ?_
            refine ar_invv (as := [.int (-4 : Int32)]) (rest := []) (b2 := (0, 0)) (b3 := (0, 0)) (q := 70) rfl rfl rfl rfl mk_113 rfl rfl rfl rfl rfl ?_
            refine am_meth_mono d _ _ _ _ _ (fun v9 m9 h9 => ?_) h
            obtain ⟨z_44, I_45, L_46, rfl, rfl, h⟩ := h9
            show am_Run am_X0 (am_meth d) 234 R 70 [some (.ref 113), some (.int s), some (.int a), some (.int x), none, none] [.int z_44] (am_mk I_45 L_46, 0, 0)
            exact ar_iret rfl rfl h
        · have h := hB c_13
          clear hA hB
          refine ar_aload_n (j := 0) (q := 46) rfl rfl rfl rfl ?_
          refine ar_iload_n (j := 1) (q := 47) rfl rfl rfl rfl ?_
          refine ar_invv (as := [.int s]) (rest := []) (b2 := (0, 0)) (b3 := (0, 0)) (q := 50) rfl rfl rfl rfl mk_113 rfl rfl rfl rfl rfl ?_
          refine am_meth_mono d _ _ _ _ _ (fun v9 m9 h9 => ?_) h
          obtain ⟨z_47, I_48, L_49, rfl, rfl, h⟩ := h9
          show am_Run am_X0 (am_meth d) 234 R 50 [some (.ref 113), some (.int s), some (.int a), some (.int x), none, none] [.int z_47] (am_mk I_48 L_49, 0, 0)
          obtain ⟨hA, hB⟩ := h
          refine ar_b0 am_c_ne (t := 60) (q := 53) rfl rfl rfl (fun c_50 => ?_) (fun c_50 => ?_)
          · have h := hA c_50
            clear hA hB
            refine ar_iload_n (j := 3) (q := 61) rfl rfl rfl rfl ?_
            obtain ⟨hA, hB⟩ := h
            refine ar_b0 am_c_ge (t := 71) (q := 64) rfl rfl rfl (fun c_51 => ?_) (fun c_51 => ?_)
            · have h := hA c_51
              clear hA hB
              refine ar_iload_n (j := 2) (q := 72) rfl rfl rfl rfl ?_
              obtain ⟨hA, hB⟩ := h
              refine ar_b0 am_c_eq (t := 83) (q := 75) rfl rfl rfl (fun c_52 => ?_) (fun c_52 => ?_)
              · have h := hA c_52
                clear hA hB
                refine ar_iconst (v := 2) (q := 84) rfl rfl rfl ?_
                refine ar_iload_n (j := 1) (q := 85) rfl rfl rfl rfl ?_
                refine ar_ib (i := .imul) (z := 2 * s) (q := 86) rfl rfl rfl rfl rfl ?_
                refine ar_istore (ls' := [some (.ref 113), some (.int s), some (.int a), some (.int x), some (.int (2 * s)), none]) (q := 88) rfl rfl rfl rfl ?_
                refine ar_aload_n (j := 0) (q := 89) rfl rfl rfl rfl ?_
                refine ar_getf (v := .ref 132) (q := 92) rfl rfl mk_113 rfl rfl ?_
                refine ar_iload (q := 94) rfl rfl rfl ?_
                obtain ⟨j_53, hx_54, hi_55, h⟩ := h
                refine ar_iald (v := I_48 132 j_53) (q := 95) rfl mk_132 (am_inE hi_55 hx_54 (by decide)) (am_clE hi_55 hx_54 (by decide)) rfl ?_
                obtain ⟨hA, hB⟩ := h
                refine ar_b0 am_c_lt (t := 102) (q := 98) rfl rfl rfl (fun c_56 => ?_) (fun c_56 => ?_)
                · have h := hA c_56
                  clear hA hB
                  refine ar_iconst (v := 0) (q := 103) rfl rfl rfl ?_
                  refine ar_istore (ls' := [some (.ref 113), some (.int s), some (.int a), some (.int x), some (.int (2 * s)), some (.int 0)]) (q := 105) rfl rfl rfl rfl ?_
                  refine ar_aload_n (j := 0) (q := 106) rfl rfl rfl rfl ?_
                  refine ar_getf (v := .ref 132) (q := 109) rfl rfl mk_113 rfl rfl ?_
                  refine ar_iload (q := 111) rfl rfl rfl ?_
                  refine ar_iload_n (j := 3) (q := 112) rfl rfl rfl rfl ?_
                  obtain ⟨j_57, hx_58, hi_59, h⟩ := h
                  obtain ⟨I_60, hI_61⟩ : ∃ z : Nat → Nat → Int32, z = va_up I_48 132 (upd (I_48 132) j_57 x) := ⟨_, rfl⟩
                  have h := h I_60 hI_61
                  refine ar_iast (hp2 := am_mk I_60 L_49) (q := 113) rfl mk_132 (am_inE hi_59 hx_58 (by decide)) (by rw [am_clT hi_59 hx_58 (by decide), hI_61]; exact mk_s132) rfl ?_
                  refine ar_iload (q := 115) rfl rfl rfl ?_
                  refine ar_b0 am_c_eq (t := 122) (q := 118) rfl rfl rfl (fun _ => ?_) (fun c9 => absurd (by decide) c9)
                  refine ar_iconst (v := 1) (q := 123) rfl rfl rfl ?_
                  exact ar_iret rfl rfl h
                · have h := hB c_56
                  clear hA hB
                  refine ar_iconst (v := 1) (q := 99) rfl rfl rfl ?_
                  refine ar_goto (t := 103) rfl rfl ?_
                  refine ar_istore (ls' := [some (.ref 113), some (.int s), some (.int a), some (.int x), some (.int (2 * s)), some (.int 1)]) (q := 105) rfl rfl rfl rfl ?_
                  refine ar_aload_n (j := 0) (q := 106) rfl rfl rfl rfl ?_
                  refine ar_getf (v := .ref 132) (q := 109) rfl rfl mk_113 rfl rfl ?_
                  refine ar_iload (q := 111) rfl rfl rfl ?_
                  refine ar_iload_n (j := 3) (q := 112) rfl rfl rfl rfl ?_
                  obtain ⟨j_62, hx_63, hi_64, h⟩ := h
                  obtain ⟨I_65, hI_66⟩ : ∃ z : Nat → Nat → Int32, z = va_up I_48 132 (upd (I_48 132) j_62 x) := ⟨_, rfl⟩
                  have h := h I_65 hI_66
                  refine ar_iast (hp2 := am_mk I_65 L_49) (q := 113) rfl mk_132 (am_inE hi_64 hx_63 (by decide)) (by rw [am_clT hi_64 hx_63 (by decide), hI_66]; exact mk_s132) rfl ?_
                  refine ar_iload (q := 115) rfl rfl rfl ?_
                  refine ar_b0 am_c_eq (t := 122) (q := 118) rfl rfl rfl (fun c9 => absurd c9 (by decide)) (fun _ => ?_)
                  refine ar_iconst (v := 0) (q := 119) rfl rfl rfl ?_
                  refine ar_goto (t := 123) rfl rfl ?_
                  exact ar_iret rfl rfl h
              · have h := hB c_52
                clear hA hB
                refine ar_iconst (v := 2) (q := 76) rfl rfl rfl ?_
                refine ar_iload_n (j := 1) (q := 77) rfl rfl rfl rfl ?_
                refine ar_ib (i := .imul) (z := 2 * s) (q := 78) rfl rfl rfl rfl rfl ?_
                refine ar_iconst (v := 1) (q := 79) rfl rfl rfl ?_
                refine ar_ib (i := .iadd) (z := (2 * s) + 1) (q := 80) rfl rfl rfl rfl rfl ?_
                refine ar_goto (t := 86) rfl rfl ?_
                refine ar_istore (ls' := [some (.ref 113), some (.int s), some (.int a), some (.int x), some (.int ((2 * s) + 1)), none]) (q := 88) rfl rfl rfl rfl ?_
                refine ar_aload_n (j := 0) (q := 89) rfl rfl rfl rfl ?_
                refine ar_getf (v := .ref 132) (q := 92) rfl rfl mk_113 rfl rfl ?_
                refine ar_iload (q := 94) rfl rfl rfl ?_
                obtain ⟨j_67, hx_68, hi_69, h⟩ := h
                refine ar_iald (v := I_48 132 j_67) (q := 95) rfl mk_132 (am_inE hi_69 hx_68 (by decide)) (am_clE hi_69 hx_68 (by decide)) rfl ?_
                obtain ⟨hA, hB⟩ := h
                refine ar_b0 am_c_lt (t := 102) (q := 98) rfl rfl rfl (fun c_70 => ?_) (fun c_70 => ?_)
                · have h := hA c_70
                  clear hA hB
                  refine ar_iconst (v := 0) (q := 103) rfl rfl rfl ?_
                  refine ar_istore (ls' := [some (.ref 113), some (.int s), some (.int a), some (.int x), some (.int ((2 * s) + 1)), some (.int 0)]) (q := 105) rfl rfl rfl rfl ?_
                  refine ar_aload_n (j := 0) (q := 106) rfl rfl rfl rfl ?_
                  refine ar_getf (v := .ref 132) (q := 109) rfl rfl mk_113 rfl rfl ?_
                  refine ar_iload (q := 111) rfl rfl rfl ?_
                  refine ar_iload_n (j := 3) (q := 112) rfl rfl rfl rfl ?_
                  obtain ⟨j_71, hx_72, hi_73, h⟩ := h
                  obtain ⟨I_74, hI_75⟩ : ∃ z : Nat → Nat → Int32, z = va_up I_48 132 (upd (I_48 132) j_71 x) := ⟨_, rfl⟩
                  have h := h I_74 hI_75
                  refine ar_iast (hp2 := am_mk I_74 L_49) (q := 113) rfl mk_132 (am_inE hi_73 hx_72 (by decide)) (by rw [am_clT hi_73 hx_72 (by decide), hI_75]; exact mk_s132) rfl ?_
                  refine ar_iload (q := 115) rfl rfl rfl ?_
                  refine ar_b0 am_c_eq (t := 122) (q := 118) rfl rfl rfl (fun _ => ?_) (fun c9 => absurd (by decide) c9)
                  refine ar_iconst (v := 1) (q := 123) rfl rfl rfl ?_
                  exact ar_iret rfl rfl h
                · have h := hB c_70
                  clear hA hB
                  refine ar_iconst (v := 1) (q := 99) rfl rfl rfl ?_
                  refine ar_goto (t := 103) rfl rfl ?_
                  refine ar_istore (ls' := [some (.ref 113), some (.int s), some (.int a), some (.int x), some (.int ((2 * s) + 1)), some (.int 1)]) (q := 105) rfl rfl rfl rfl ?_
                  refine ar_aload_n (j := 0) (q := 106) rfl rfl rfl rfl ?_
                  refine ar_getf (v := .ref 132) (q := 109) rfl rfl mk_113 rfl rfl ?_
                  refine ar_iload (q := 111) rfl rfl rfl ?_
                  refine ar_iload_n (j := 3) (q := 112) rfl rfl rfl rfl ?_
                  obtain ⟨j_76, hx_77, hi_78, h⟩ := h
                  obtain ⟨I_79, hI_80⟩ : ∃ z : Nat → Nat → Int32, z = va_up I_48 132 (upd (I_48 132) j_76 x) := ⟨_, rfl⟩
                  have h := h I_79 hI_80
                  refine ar_iast (hp2 := am_mk I_79 L_49) (q := 113) rfl mk_132 (am_inE hi_78 hx_77 (by decide)) (by rw [am_clT hi_78 hx_77 (by decide), hI_80]; exact mk_s132) rfl ?_
                  refine ar_iload (q := 115) rfl rfl rfl ?_
                  refine ar_b0 am_c_eq (t := 122) (q := 118) rfl rfl rfl (fun c9 => absurd c9 (by decide)) (fun _ => ?_)
                  refine ar_iconst (v := 0) (q := 119) rfl rfl rfl ?_
                  refine ar_goto (t := 123) rfl rfl ?_
                  exact ar_iret rfl rfl h
            · have h := hB c_51
              clear hA hB
              refine ar_aload_n (j := 0) (q := 65) rfl rfl rfl rfl ?_
              refine ar_bipush (v := (-4 : Int32)) (q := 67) rfl rfl rfl ?_
              refine ar_invv (as := [.int (-4 : Int32)]) (rest := []) (b2 := (0, 0)) (b3 := (0, 0)) (q := 70) rfl rfl rfl rfl mk_113 rfl rfl rfl rfl rfl ?_
              refine am_meth_mono d _ _ _ _ _ (fun v9 m9 h9 => ?_) h
              obtain ⟨z_81, I_82, L_83, rfl, rfl, h⟩ := h9
              show am_Run am_X0 (am_meth d) 234 R 70 [some (.ref 113), some (.int s), some (.int a), some (.int x), none, none] [.int z_81] (am_mk I_82 L_83, 0, 0)
              exact ar_iret rfl rfl h
          · have h := hB c_50
            clear hA hB
            refine ar_aload_n (j := 0) (q := 54) rfl rfl rfl rfl ?_
            refine ar_bipush (v := (-3 : Int32)) (q := 56) rfl rfl rfl ?_
            refine ar_invv (as := [.int (-3 : Int32)]) (rest := []) (b2 := (0, 0)) (b3 := (0, 0)) (q := 59) rfl rfl rfl rfl mk_113 rfl rfl rfl rfl rfl ?_
            refine am_meth_mono d _ _ _ _ _ (fun v9 m9 h9 => ?_) h
            obtain ⟨z_84, I_85, L_86, rfl, rfl, h⟩ := h9
            show am_Run am_X0 (am_meth d) 234 R 59 [some (.ref 113), some (.int s), some (.int a), some (.int x), none, none] [.int z_84] (am_mk I_85 L_86, 0, 0)
            exact ar_iret rfl rfl h
      · have h := hB c_12
        clear hA hB
        refine ar_aload_n (j := 0) (q := 29) rfl rfl rfl rfl ?_
        refine ar_getf (v := .int (I_2 113 0)) (q := 32) rfl rfl mk_113 rfl rfl ?_
        refine ar_aload_n (j := 0) (q := 33) rfl rfl rfl rfl ?_
        refine ar_getf (v := .ref 126) (q := 36) rfl rfl mk_113 rfl rfl ?_
        refine ar_iload_n (j := 1) (q := 37) rfl rfl rfl rfl ?_
        obtain ⟨j_87, hx_88, hi_89, h⟩ := h
        refine ar_iald (v := I_2 126 j_87) (q := 38) rfl mk_126 (am_inE hi_89 hx_88 (by decide)) (am_clE hi_89 hx_88 (by decide)) rfl ?_
        obtain ⟨hA, hB⟩ := h
        refine ar_br am_c_gt (t := 53) (q := 41) rfl rfl rfl (fun c_90 => ?_) (fun c_90 => ?_)
        · have h := hA c_90
          clear hA hB
          refine ar_aload_n (j := 0) (q := 54) rfl rfl rfl rfl ?_
          refine ar_bipush (v := (-3 : Int32)) (q := 56) rfl rfl rfl ?_
          refine ar_invv (as := [.int (-3 : Int32)]) (rest := []) (b2 := (0, 0)) (b3 := (0, 0)) (q := 59) rfl rfl rfl rfl mk_113 rfl rfl rfl rfl rfl ?_
          refine am_meth_mono d _ _ _ _ _ (fun v9 m9 h9 => ?_) h
          obtain ⟨z_91, I_92, L_93, rfl, rfl, h⟩ := h9
          show am_Run am_X0 (am_meth d) 234 R 59 [some (.ref 113), some (.int s), some (.int a), some (.int x), none, none] [.int z_91] (am_mk I_92 L_93, 0, 0)
          exact ar_iret rfl rfl h
        · have h := hB c_90
          clear hA hB
          refine ar_iload_n (j := 2) (q := 42) rfl rfl rfl rfl ?_
          obtain ⟨hA, hB⟩ := h
          refine ar_b0 am_c_eq (t := 60) (q := 45) rfl rfl rfl (fun c_94 => ?_) (fun c_94 => ?_)
          · have h := hA c_94
            clear hA hB
            refine ar_iload_n (j := 3) (q := 61) rfl rfl rfl rfl ?_
            obtain ⟨hA, hB⟩ := h
            refine ar_b0 am_c_ge (t := 71) (q := 64) rfl rfl rfl (fun c_95 => ?_) (fun c_95 => ?_)
            · have h := hA c_95
              clear hA hB
              refine ar_iload_n (j := 2) (q := 72) rfl rfl rfl rfl ?_
              obtain ⟨hA, hB⟩ := h
              refine ar_b0 am_c_eq (t := 83) (q := 75) rfl rfl rfl (fun c_96 => ?_) (fun c_96 => ?_)
              · have h := hA c_96
                clear hA hB
                refine ar_iconst (v := 2) (q := 84) rfl rfl rfl ?_
                refine ar_iload_n (j := 1) (q := 85) rfl rfl rfl rfl ?_
                refine ar_ib (i := .imul) (z := 2 * s) (q := 86) rfl rfl rfl rfl rfl ?_
                refine ar_istore (ls' := [some (.ref 113), some (.int s), some (.int a), some (.int x), some (.int (2 * s)), none]) (q := 88) rfl rfl rfl rfl ?_
                refine ar_aload_n (j := 0) (q := 89) rfl rfl rfl rfl ?_
                refine ar_getf (v := .ref 132) (q := 92) rfl rfl mk_113 rfl rfl ?_
                refine ar_iload (q := 94) rfl rfl rfl ?_
                obtain ⟨j_97, hx_98, hi_99, h⟩ := h
                refine ar_iald (v := I_2 132 j_97) (q := 95) rfl mk_132 (am_inE hi_99 hx_98 (by decide)) (am_clE hi_99 hx_98 (by decide)) rfl ?_
                obtain ⟨hA, hB⟩ := h
                refine ar_b0 am_c_lt (t := 102) (q := 98) rfl rfl rfl (fun c_100 => ?_) (fun c_100 => ?_)
                · have h := hA c_100
                  clear hA hB
                  refine ar_iconst (v := 0) (q := 103) rfl rfl rfl ?_
                  refine ar_istore (ls' := [some (.ref 113), some (.int s), some (.int a), some (.int x), some (.int (2 * s)), some (.int 0)]) (q := 105) rfl rfl rfl rfl ?_
                  refine ar_aload_n (j := 0) (q := 106) rfl rfl rfl rfl ?_
                  refine ar_getf (v := .ref 132) (q := 109) rfl rfl mk_113 rfl rfl ?_
                  refine ar_iload (q := 111) rfl rfl rfl ?_
                  refine ar_iload_n (j := 3) (q := 112) rfl rfl rfl rfl ?_
                  obtain ⟨j_101, hx_102, hi_103, h⟩ := h
                  obtain ⟨I_104, hI_105⟩ : ∃ z : Nat → Nat → Int32, z = va_up I_2 132 (upd (I_2 132) j_101 x) := ⟨_, rfl⟩
                  have h := h I_104 hI_105
                  refine ar_iast (hp2 := am_mk I_104 L_3) (q := 113) rfl mk_132 (am_inE hi_103 hx_102 (by decide)) (by rw [am_clT hi_103 hx_102 (by decide), hI_105]; exact mk_s132) rfl ?_
                  refine ar_iload (q := 115) rfl rfl rfl ?_
                  refine ar_b0 am_c_eq (t := 122) (q := 118) rfl rfl rfl (fun _ => ?_) (fun c9 => absurd (by decide) c9)
                  refine ar_iconst (v := 1) (q := 123) rfl rfl rfl ?_
                  exact ar_iret rfl rfl h
                · have h := hB c_100
                  clear hA hB
                  refine ar_iconst (v := 1) (q := 99) rfl rfl rfl ?_
                  refine ar_goto (t := 103) rfl rfl ?_
                  refine ar_istore (ls' := [some (.ref 113), some (.int s), some (.int a), some (.int x), some (.int (2 * s)), some (.int 1)]) (q := 105) rfl rfl rfl rfl ?_
                  refine ar_aload_n (j := 0) (q := 106) rfl rfl rfl rfl ?_
                  refine ar_getf (v := .ref 132) (q := 109) rfl rfl mk_113 rfl rfl ?_
                  refine ar_iload (q := 111) rfl rfl rfl ?_
                  refine ar_iload_n (j := 3) (q := 112) rfl rfl rfl rfl ?_
                  obtain ⟨j_106, hx_107, hi_108, h⟩ := h
                  obtain ⟨I_109, hI_110⟩ : ∃ z : Nat → Nat → Int32, z = va_up I_2 132 (upd (I_2 132) j_106 x) := ⟨_, rfl⟩
                  have h := h I_109 hI_110
                  refine ar_iast (hp2 := am_mk I_109 L_3) (q := 113) rfl mk_132 (am_inE hi_108 hx_107 (by decide)) (by rw [am_clT hi_108 hx_107 (by decide), hI_110]; exact mk_s132) rfl ?_
                  refine ar_iload (q := 115) rfl rfl rfl ?_
                  refine ar_b0 am_c_eq (t := 122) (q := 118) rfl rfl rfl (fun c9 => absurd c9 (by decide)) (fun _ => ?_)
                  refine ar_iconst (v := 0) (q := 119) rfl rfl rfl ?_
                  refine ar_goto (t := 123) rfl rfl ?_
                  exact ar_iret rfl rfl h
              · have h := hB c_96
                clear hA hB
                refine ar_iconst (v := 2) (q := 76) rfl rfl rfl ?_
                refine ar_iload_n (j := 1) (q := 77) rfl rfl rfl rfl ?_
                refine ar_ib (i := .imul) (z := 2 * s) (q := 78) rfl rfl rfl rfl rfl ?_
                refine ar_iconst (v := 1) (q := 79) rfl rfl rfl ?_
                refine ar_ib (i := .iadd) (z := (2 * s) + 1) (q := 80) rfl rfl rfl rfl rfl ?_
                refine ar_goto (t := 86) rfl rfl ?_
                refine ar_istore (ls' := [some (.ref 113), some (.int s), some (.int a), some (.int x), some (.int ((2 * s) + 1)), none]) (q := 88) rfl rfl rfl rfl ?_
                refine ar_aload_n (j := 0) (q := 89) rfl rfl rfl rfl ?_
                refine ar_getf (v := .ref 132) (q := 92) rfl rfl mk_113 rfl rfl ?_
                refine ar_iload (q := 94) rfl rfl rfl ?_
                obtain ⟨j_111, hx_112, hi_113, h⟩ := h
                refine ar_iald (v := I_2 132 j_111) (q := 95) rfl mk_132 (am_inE hi_113 hx_112 (by decide)) (am_clE hi_113 hx_112 (by decide)) rfl ?_
                obtain ⟨hA, hB⟩ := h
                refine ar_b0 am_c_lt (t := 102) (q := 98) rfl rfl rfl (fun c_114 => ?_) (fun c_114 => ?_)
                · have h := hA c_114
                  clear hA hB
                  refine ar_iconst (v := 0) (q := 103) rfl rfl rfl ?_
                  refine ar_istore (ls' := [some (.ref 113), some (.int s), some (.int a), some (.int x), some (.int ((2 * s) + 1)), some (.int 0)]) (q := 105) rfl rfl rfl rfl ?_
                  refine ar_aload_n (j := 0) (q := 106) rfl rfl rfl rfl ?_
                  refine ar_getf (v := .ref 132) (q := 109) rfl rfl mk_113 rfl rfl ?_
                  refine ar_iload (q := 111) rfl rfl rfl ?_
                  refine ar_iload_n (j := 3) (q := 112) rfl rfl rfl rfl ?_
                  obtain ⟨j_115, hx_116, hi_117, h⟩ := h
                  obtain ⟨I_118, hI_119⟩ : ∃ z : Nat → Nat → Int32, z = va_up I_2 132 (upd (I_2 132) j_115 x) := ⟨_, rfl⟩
                  have h := h I_118 hI_119
                  refine ar_iast (hp2 := am_mk I_118 L_3) (q := 113) rfl mk_132 (am_inE hi_117 hx_116 (by decide)) (by rw [am_clT hi_117 hx_116 (by decide), hI_119]; exact mk_s132) rfl ?_
                  refine ar_iload (q := 115) rfl rfl rfl ?_
                  refine ar_b0 am_c_eq (t := 122) (q := 118) rfl rfl rfl (fun _ => ?_) (fun c9 => absurd (by decide) c9)
                  refine ar_iconst (v := 1) (q := 123) rfl rfl rfl ?_
                  exact ar_iret rfl rfl h
                · have h := hB c_114
                  clear hA hB
                  refine ar_iconst (v := 1) (q := 99) rfl rfl rfl ?_
                  refine ar_goto (t := 103) rfl rfl ?_
                  refine ar_istore (ls' := [some (.ref 113), some (.int s), some (.int a), some (.int x), some (.int ((2 * s) + 1)), some (.int 1)]) (q := 105) rfl rfl rfl rfl ?_
                  refine ar_aload_n (j := 0) (q := 106) rfl rfl rfl rfl ?_
                  refine ar_getf (v := .ref 132) (q := 109) rfl rfl mk_113 rfl rfl ?_
                  refine ar_iload (q := 111) rfl rfl rfl ?_
                  refine ar_iload_n (j := 3) (q := 112) rfl rfl rfl rfl ?_
                  obtain ⟨j_120, hx_121, hi_122, h⟩ := h
                  obtain ⟨I_123, hI_124⟩ : ∃ z : Nat → Nat → Int32, z = va_up I_2 132 (upd (I_2 132) j_120 x) := ⟨_, rfl⟩
                  have h := h I_123 hI_124
                  refine ar_iast (hp2 := am_mk I_123 L_3) (q := 113) rfl mk_132 (am_inE hi_122 hx_121 (by decide)) (by rw [am_clT hi_122 hx_121 (by decide), hI_124]; exact mk_s132) rfl ?_
                  refine ar_iload (q := 115) rfl rfl rfl ?_
                  refine ar_b0 am_c_eq (t := 122) (q := 118) rfl rfl rfl (fun c9 => absurd c9 (by decide)) (fun _ => ?_)
                  refine ar_iconst (v := 0) (q := 119) rfl rfl rfl ?_
                  refine ar_goto (t := 123) rfl rfl ?_
                  exact ar_iret rfl rfl h
            · have h := hB c_95
              clear hA hB
              refine ar_aload_n (j := 0) (q := 65) rfl rfl rfl rfl ?_
              refine ar_bipush (v := (-4 : Int32)) (q := 67) rfl rfl rfl ?_
              refine ar_invv (as := [.int (-4 : Int32)]) (rest := []) (b2 := (0, 0)) (b3 := (0, 0)) (q := 70) rfl rfl rfl rfl mk_113 rfl rfl rfl rfl rfl ?_
              refine am_meth_mono d _ _ _ _ _ (fun v9 m9 h9 => ?_) h
              obtain ⟨z_125, I_126, L_127, rfl, rfl, h⟩ := h9
              show am_Run am_X0 (am_meth d) 234 R 70 [some (.ref 113), some (.int s), some (.int a), some (.int x), none, none] [.int z_125] (am_mk I_126 L_127, 0, 0)
              exact ar_iret rfl rfl h
          · have h := hB c_94
            clear hA hB
            refine ar_aload_n (j := 0) (q := 46) rfl rfl rfl rfl ?_
            refine ar_iload_n (j := 1) (q := 47) rfl rfl rfl rfl ?_
            refine ar_invv (as := [.int s]) (rest := []) (b2 := (0, 0)) (b3 := (0, 0)) (q := 50) rfl rfl rfl rfl mk_113 rfl rfl rfl rfl rfl ?_
            refine am_meth_mono d _ _ _ _ _ (fun v9 m9 h9 => ?_) h
            obtain ⟨z_128, I_129, L_130, rfl, rfl, h⟩ := h9
            show am_Run am_X0 (am_meth d) 234 R 50 [some (.ref 113), some (.int s), some (.int a), some (.int x), none, none] [.int z_128] (am_mk I_129 L_130, 0, 0)
            obtain ⟨hA, hB⟩ := h
            refine ar_b0 am_c_ne (t := 60) (q := 53) rfl rfl rfl (fun c_131 => ?_) (fun c_131 => ?_)
            · have h := hA c_131
              clear hA hB
              refine ar_iload_n (j := 3) (q := 61) rfl rfl rfl rfl ?_
              obtain ⟨hA, hB⟩ := h
              refine ar_b0 am_c_ge (t := 71) (q := 64) rfl rfl rfl (fun c_132 => ?_) (fun c_132 => ?_)
              · have h := hA c_132
                clear hA hB
                refine ar_iload_n (j := 2) (q := 72) rfl rfl rfl rfl ?_
                obtain ⟨hA, hB⟩ := h
                refine ar_b0 am_c_eq (t := 83) (q := 75) rfl rfl rfl (fun c_133 => ?_) (fun c_133 => ?_)
                · have h := hA c_133
                  clear hA hB
                  refine ar_iconst (v := 2) (q := 84) rfl rfl rfl ?_
                  refine ar_iload_n (j := 1) (q := 85) rfl rfl rfl rfl ?_
                  refine ar_ib (i := .imul) (z := 2 * s) (q := 86) rfl rfl rfl rfl rfl ?_
                  refine ar_istore (ls' := [some (.ref 113), some (.int s), some (.int a), some (.int x), some (.int (2 * s)), none]) (q := 88) rfl rfl rfl rfl ?_
                  refine ar_aload_n (j := 0) (q := 89) rfl rfl rfl rfl ?_
                  refine ar_getf (v := .ref 132) (q := 92) rfl rfl mk_113 rfl rfl ?_
                  refine ar_iload (q := 94) rfl rfl rfl ?_
                  obtain ⟨j_134, hx_135, hi_136, h⟩ := h
                  refine ar_iald (v := I_129 132 j_134) (q := 95) rfl mk_132 (am_inE hi_136 hx_135 (by decide)) (am_clE hi_136 hx_135 (by decide)) rfl ?_
                  obtain ⟨hA, hB⟩ := h
                  refine ar_b0 am_c_lt (t := 102) (q := 98) rfl rfl rfl (fun c_137 => ?_) (fun c_137 => ?_)
                  · have h := hA c_137
                    clear hA hB
                    refine ar_iconst (v := 0) (q := 103) rfl rfl rfl ?_
                    refine ar_istore (ls' := [some (.ref 113), some (.int s), some (.int a), some (.int x), some (.int (2 * s)), some (.int 0)]) (q := 105) rfl rfl rfl rfl ?_
                    refine ar_aload_n (j := 0) (q := 106) rfl rfl rfl rfl ?_
                    refine ar_getf (v := .ref 132) (q := 109) rfl rfl mk_113 rfl rfl ?_
                    refine ar_iload (q := 111) rfl rfl rfl ?_
                    refine ar_iload_n (j := 3) (q := 112) rfl rfl rfl rfl ?_
                    obtain ⟨j_138, hx_139, hi_140, h⟩ := h
                    obtain ⟨I_141, hI_142⟩ : ∃ z : Nat → Nat → Int32, z = va_up I_129 132 (upd (I_129 132) j_138 x) := ⟨_, rfl⟩
                    have h := h I_141 hI_142
                    refine ar_iast (hp2 := am_mk I_141 L_130) (q := 113) rfl mk_132 (am_inE hi_140 hx_139 (by decide)) (by rw [am_clT hi_140 hx_139 (by decide), hI_142]; exact mk_s132) rfl ?_
                    refine ar_iload (q := 115) rfl rfl rfl ?_
                    refine ar_b0 am_c_eq (t := 122) (q := 118) rfl rfl rfl (fun _ => ?_) (fun c9 => absurd (by decide) c9)
                    refine ar_iconst (v := 1) (q := 123) rfl rfl rfl ?_
                    exact ar_iret rfl rfl h
                  · have h := hB c_137
                    clear hA hB
                    refine ar_iconst (v := 1) (q := 99) rfl rfl rfl ?_
                    refine ar_goto (t := 103) rfl rfl ?_
                    refine ar_istore (ls' := [some (.ref 113), some (.int s), some (.int a), some (.int x), some (.int (2 * s)), some (.int 1)]) (q := 105) rfl rfl rfl rfl ?_
                    refine ar_aload_n (j := 0) (q := 106) rfl rfl rfl rfl ?_
                    refine ar_getf (v := .ref 132) (q := 109) rfl rfl mk_113 rfl rfl ?_
                    refine ar_iload (q := 111) rfl rfl rfl ?_
                    refine ar_iload_n (j := 3) (q := 112) rfl rfl rfl rfl ?_
                    obtain ⟨j_143, hx_144, hi_145, h⟩ := h
                    obtain ⟨I_146, hI_147⟩ : ∃ z : Nat → Nat → Int32, z = va_up I_129 132 (upd (I_129 132) j_143 x) := ⟨_, rfl⟩
                    have h := h I_146 hI_147
                    refine ar_iast (hp2 := am_mk I_146 L_130) (q := 113) rfl mk_132 (am_inE hi_145 hx_144 (by decide)) (by rw [am_clT hi_145 hx_144 (by decide), hI_147]; exact mk_s132) rfl ?_
                    refine ar_iload (q := 115) rfl rfl rfl ?_
                    refine ar_b0 am_c_eq (t := 122) (q := 118) rfl rfl rfl (fun c9 => absurd c9 (by decide)) (fun _ => ?_)
                    refine ar_iconst (v := 0) (q := 119) rfl rfl rfl ?_
                    refine ar_goto (t := 123) rfl rfl ?_
                    exact ar_iret rfl rfl h
                · have h := hB c_133
                  clear hA hB
                  refine ar_iconst (v := 2) (q := 76) rfl rfl rfl ?_
                  refine ar_iload_n (j := 1) (q := 77) rfl rfl rfl rfl ?_
                  refine ar_ib (i := .imul) (z := 2 * s) (q := 78) rfl rfl rfl rfl rfl ?_
                  refine ar_iconst (v := 1) (q := 79) rfl rfl rfl ?_
                  refine ar_ib (i := .iadd) (z := (2 * s) + 1) (q := 80) rfl rfl rfl rfl rfl ?_
                  refine ar_goto (t := 86) rfl rfl ?_
                  refine ar_istore (ls' := [some (.ref 113), some (.int s), some (.int a), some (.int x), some (.int ((2 * s) + 1)), none]) (q := 88) rfl rfl rfl rfl ?_
                  refine ar_aload_n (j := 0) (q := 89) rfl rfl rfl rfl ?_
                  refine ar_getf (v := .ref 132) (q := 92) rfl rfl mk_113 rfl rfl ?_
                  refine ar_iload (q := 94) rfl rfl rfl ?_
                  obtain ⟨j_148, hx_149, hi_150, h⟩ := h
                  refine ar_iald (v := I_129 132 j_148) (q := 95) rfl mk_132 (am_inE hi_150 hx_149 (by decide)) (am_clE hi_150 hx_149 (by decide)) rfl ?_
                  obtain ⟨hA, hB⟩ := h
                  refine ar_b0 am_c_lt (t := 102) (q := 98) rfl rfl rfl (fun c_151 => ?_) (fun c_151 => ?_)
                  · have h := hA c_151
                    clear hA hB
                    refine ar_iconst (v := 0) (q := 103) rfl rfl rfl ?_
                    refine ar_istore (ls' := [some (.ref 113), some (.int s), some (.int a), some (.int x), some (.int ((2 * s) + 1)), some (.int 0)]) (q := 105) rfl rfl rfl rfl ?_
                    refine ar_aload_n (j := 0) (q := 106) rfl rfl rfl rfl ?_
                    refine ar_getf (v := .ref 132) (q := 109) rfl rfl mk_113 rfl rfl ?_
                    refine ar_iload (q := 111) rfl rfl rfl ?_
                    refine ar_iload_n (j := 3) (q := 112) rfl rfl rfl rfl ?_
                    obtain ⟨j_152, hx_153, hi_154, h⟩ := h
                    obtain ⟨I_155, hI_156⟩ : ∃ z : Nat → Nat → Int32, z = va_up I_129 132 (upd (I_129 132) j_152 x) := ⟨_, rfl⟩
                    have h := h I_155 hI_156
                    refine ar_iast (hp2 := am_mk I_155 L_130) (q := 113) rfl mk_132 (am_inE hi_154 hx_153 (by decide)) (by rw [am_clT hi_154 hx_153 (by decide), hI_156]; exact mk_s132) rfl ?_
                    refine ar_iload (q := 115) rfl rfl rfl ?_
                    refine ar_b0 am_c_eq (t := 122) (q := 118) rfl rfl rfl (fun _ => ?_) (fun c9 => absurd (by decide) c9)
                    refine ar_iconst (v := 1) (q := 123) rfl rfl rfl ?_
                    exact ar_iret rfl rfl h
                  · have h := hB c_151
                    clear hA hB
                    refine ar_iconst (v := 1) (q := 99) rfl rfl rfl ?_
                    refine ar_goto (t := 103) rfl rfl ?_
                    refine ar_istore (ls' := [some (.ref 113), some (.int s), some (.int a), some (.int x), some (.int ((2 * s) + 1)), some (.int 1)]) (q := 105) rfl rfl rfl rfl ?_
                    refine ar_aload_n (j := 0) (q := 106) rfl rfl rfl rfl ?_
                    refine ar_getf (v := .ref 132) (q := 109) rfl rfl mk_113 rfl rfl ?_
                    refine ar_iload (q := 111) rfl rfl rfl ?_
                    refine ar_iload_n (j := 3) (q := 112) rfl rfl rfl rfl ?_
                    obtain ⟨j_157, hx_158, hi_159, h⟩ := h
                    obtain ⟨I_160, hI_161⟩ : ∃ z : Nat → Nat → Int32, z = va_up I_129 132 (upd (I_129 132) j_157 x) := ⟨_, rfl⟩
                    have h := h I_160 hI_161
                    refine ar_iast (hp2 := am_mk I_160 L_130) (q := 113) rfl mk_132 (am_inE hi_159 hx_158 (by decide)) (by rw [am_clT hi_159 hx_158 (by decide), hI_161]; exact mk_s132) rfl ?_
                    refine ar_iload (q := 115) rfl rfl rfl ?_
                    refine ar_b0 am_c_eq (t := 122) (q := 118) rfl rfl rfl (fun c9 => absurd c9 (by decide)) (fun _ => ?_)
                    refine ar_iconst (v := 0) (q := 119) rfl rfl rfl ?_
                    refine ar_goto (t := 123) rfl rfl ?_
                    exact ar_iret rfl rfl h
              · have h := hB c_132
                clear hA hB
                refine ar_aload_n (j := 0) (q := 65) rfl rfl rfl rfl ?_
                refine ar_bipush (v := (-4 : Int32)) (q := 67) rfl rfl rfl ?_
                refine ar_invv (as := [.int (-4 : Int32)]) (rest := []) (b2 := (0, 0)) (b3 := (0, 0)) (q := 70) rfl rfl rfl rfl mk_113 rfl rfl rfl rfl rfl ?_
                refine am_meth_mono d _ _ _ _ _ (fun v9 m9 h9 => ?_) h
                obtain ⟨z_162, I_163, L_164, rfl, rfl, h⟩ := h9
                show am_Run am_X0 (am_meth d) 234 R 70 [some (.ref 113), some (.int s), some (.int a), some (.int x), none, none] [.int z_162] (am_mk I_163 L_164, 0, 0)
                exact ar_iret rfl rfl h
            · have h := hB c_131
              clear hA hB
              refine ar_aload_n (j := 0) (q := 54) rfl rfl rfl rfl ?_
              refine ar_bipush (v := (-3 : Int32)) (q := 56) rfl rfl rfl ?_
              refine ar_invv (as := [.int (-3 : Int32)]) (rest := []) (b2 := (0, 0)) (b3 := (0, 0)) (q := 59) rfl rfl rfl rfl mk_113 rfl rfl rfl rfl rfl ?_
              refine am_meth_mono d _ _ _ _ _ (fun v9 m9 h9 => ?_) h
              obtain ⟨z_165, I_166, L_167, rfl, rfl, h⟩ := h9
              show am_Run am_X0 (am_meth d) 234 R 59 [some (.ref 113), some (.int s), some (.int a), some (.int x), none, none] [.int z_165] (am_mk I_166 L_167, 0, 0)
              exact ar_iret rfl rfl h
  · have h := hB c_4
    clear hA hB
    refine ar_aload_n (j := 0) (q := 9) rfl rfl rfl rfl ?_
    refine ar_iconst (v := (-1 : Int32)) (q := 10) rfl rfl rfl ?_
    refine ar_invv (as := [.int (-1 : Int32)]) (rest := []) (b2 := (0, 0)) (b3 := (0, 0)) (q := 13) rfl rfl rfl rfl mk_113 rfl rfl rfl rfl rfl ?_
    refine am_meth_mono d _ _ _ _ _ (fun v9 m9 h9 => ?_) h
    obtain ⟨z_168, I_169, L_170, rfl, rfl, h⟩ := h9
    show am_Run am_X0 (am_meth d) 234 R 13 [some (.ref 113), some (.int s), some (.int a), some (.int x), none, none] [.int z_168] (am_mk I_169 L_170, 0, 0)
    exact ar_iret rfl rfl h
