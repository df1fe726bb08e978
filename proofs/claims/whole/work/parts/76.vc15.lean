theorem r_Str_length_0 {d : Nat} (hd : 1 ≤ d) {R : am_R} {I : Nat → Nat → Int32} {L : Nat → Nat → Int64}  (h : R (some (.int ((10 : Int32) >>> ((0 : Int32) &&& 31)))) (am_mk I L, 0, 0)) : am_Run am_X0 (am_meth d) 250 R 0 [some (.float 2)] [] (am_mk I L, 0, 0) := by
  refine ar_aload_nx (j := 0) (q := 1) rfl rfl rfl rfl ?_
  refine ar_getx (v := .float 3) (q := 4) rfl rfl rfl ?_
  refine ar_st (i := .arraylength) (n := 1) (st' := [.int 10]) (q := 5) rfl rfl rfl rfl ?_
  refine ar_aload_nx (j := 0) (q := 6) rfl rfl rfl rfl ?_
  refine ar_invx (as := []) (rest := [.int 10]) (b2 := (0, 0)) (b3 := (0, 0)) (q := 9) rfl rfl rfl rfl rfl rfl rfl rfl rfl ?_
  refine ok_Str_coder (by omega)  ?_
  show am_Run am_X0 (am_meth d) 250 R 9 [some (.float 2)] [.int 0, .int 10] (am_mk I L, 0, 0)
  refine ar_ib (i := .ishr) (z := (10 : Int32) >>> ((0 : Int32) &&& 31)) (q := 10) rfl rfl rfl rfl rfl ?_
  exact ar_iret rfl rfl h
theorem ok_Str_length {d : Nat} {R : am_R} {I : Nat → Nat → Int32} {L : Nat → Nat → Int64} (hd : 2 ≤ d) (h : R (some (.int 10)) (am_mk I L, 0, 0)) : am_meth d 250 [.float 2] (am_mk I L, 0, 0) R := by
  obtain ⟨d, rfl⟩ : ∃ e, d = e + 1 := ⟨d - 1, by omega⟩
  exact ar_in rfl rfl rfl (r_Str_length_0 (by omega) h)
theorem r_Str_indexOf_0 {d : Nat} {R : am_R} {I : Nat → Nat → Int32} {L : Nat → Nat → Int64} {x : Int32} (h : am_meth d 253 [.float 2, .int x, .int 0] (am_mk I L, 0, 0) (am_ri (fun z_1 I_2 L_3 => R (some (.int z_1)) (am_mk I_2 L_3, 0, 0)))) : am_Run am_X0 (am_meth d) 252 R 0 [some (.float 2), some (.int x)] [] (am_mk I L, 0, 0) := by
  refine ar_aload_nx (j := 0) (q := 1) rfl rfl rfl rfl ?_
  refine ar_iload_n (j := 1) (q := 2) rfl rfl rfl rfl ?_
  refine ar_iconst (v := 0) (q := 3) rfl rfl rfl ?_
  refine ar_invx (as := [.int x, .int 0]) (rest := []) (b2 := (0, 0)) (b3 := (0, 0)) (q := 6) rfl rfl rfl rfl rfl rfl rfl rfl rfl ?_
  refine am_meth_mono d _ _ _ _ _ (fun v9 m9 h9 => ?_) h
  obtain ⟨z_1, I_2, L_3, rfl, rfl, h⟩ := h9
  show am_Run am_X0 (am_meth d) 252 R 6 [some (.float 2), some (.int x)] [.int z_1] (am_mk I_2 L_3, 0, 0)
  exact ar_iret rfl rfl h
theorem r_Str_indexOf2_0 {d : Nat} (hd : 2 ≤ d) {R : am_R} {I : Nat → Nat → Int32} {L : Nat → Nat → Int64} {x : Int32} (h : am_meth d 255 [.float 3, .int x, .int 0, .int 10] (am_mk I L, 0, 0) (am_ri (fun z_1 I_2 L_3 => R (some (.int z_1)) (am_mk I_2 L_3, 0, 0)))) : am_Run am_X0 (am_meth d) 253 R 0 [some (.float 2), some (.int x), some (.int 0)] [] (am_mk I L, 0, 0) := by
  refine ar_aload_nx (j := 0) (q := 1) rfl rfl rfl rfl ?_
  refine ar_invx (as := []) (rest := []) (b2 := (0, 0)) (b3 := (0, 0)) (q := 4) rfl rfl rfl rfl rfl rfl rfl rfl rfl ?_
  refine ok_Str_isLatin1 (by omega)  ?_
  show am_Run am_X0 (am_meth d) 253 R 4 [some (.float 2), some (.int x), some (.int 0)] [.int 1] (am_mk I L, 0, 0)
  refine ar_b0 am_c_eq (t := 23) (q := 7) rfl rfl rfl (fun c9 => absurd c9 (by decide)) (fun _ => ?_)
  refine ar_aload_nx (j := 0) (q := 8) rfl rfl rfl rfl ?_
  refine ar_getx (v := .float 3) (q := 11) rfl rfl rfl ?_
  refine ar_iload_n (j := 1) (q := 12) rfl rfl rfl rfl ?_
  refine ar_iload_n (j := 2) (q := 13) rfl rfl rfl rfl ?_
  refine ar_aload_nx (j := 0) (q := 14) rfl rfl rfl rfl ?_
  refine ar_invx (as := []) (rest := [.int 0, .int x, .float 3]) (b2 := (0, 0)) (b3 := (0, 0)) (q := 17) rfl rfl rfl rfl rfl rfl rfl rfl rfl ?_
  refine ok_Str_length (by omega)  ?_
  show am_Run am_X0 (am_meth d) 253 R 17 [some (.float 2), some (.int x), some (.int 0)] [.int 10, .int 0, .int x, .float 3] (am_mk I L, 0, 0)
  refine ar_invs (as := [.float 3, .int x, .int 0, .int 10]) (rest := []) (b2 := (0, 0)) (b3 := (0, 0)) (q := 20) rfl rfl rfl rfl rfl rfl rfl rfl rfl ?_
  refine am_meth_mono d _ _ _ _ _ (fun v9 m9 h9 => ?_) h
  obtain ⟨z_1, I_2, L_3, rfl, rfl, h⟩ := h9
  show am_Run am_X0 (am_meth d) 253 R 20 [some (.float 2), some (.int x), some (.int 0)] [.int z_1] (am_mk I_2 L_3, 0, 0)
  refine ar_goto (t := 36) rfl rfl ?_
  exact ar_iret rfl rfl h
theorem r_Lat_indexOf_0 {d : Nat} (hd : 1 ≤ d) {R : am_R} {I : Nat → Nat → Int32} {L : Nat → Nat → Int64} {x : Int32} (h : (((0 ≤ x ∧ x ≤ 255) → ((((if (0 : Int32) < 0 then (0 : Int32) else 0) < (if (10 : Int32) < 10 then (10 : Int32) else 10) → (am_meth d 257 [.float 3, .int x, .int (if (0 : Int32) < 0 then (0 : Int32) else 0), .int (if (10 : Int32) < 10 then (10 : Int32) else 10)] (am_mk I L, 0, 0) (am_ri (fun z_3 I_4 L_5 => R (some (.int z_3)) (am_mk I_4 L_5, 0, 0))))) ∧ (¬ (if (0 : Int32) < 0 then (0 : Int32) else 0) < (if (10 : Int32) < 10 then (10 : Int32) else 10) → (R (some (.int (-1 : Int32))) (am_mk I L, 0, 0)))))) ∧ (¬ ((0 ≤ x ∧ x ≤ 255)) → (R (some (.int (-1 : Int32))) (am_mk I L, 0, 0))))) : am_Run am_X0 (am_meth d) 255 R 0 [some (.float 3), some (.int x), some (.int 0), some (.int 10)] [] (am_mk I L, 0, 0) := by
  refine ar_iload_n (j := 1) (q := 1) rfl rfl rfl rfl ?_
  refine ar_invs (as := [.int x]) (rest := []) (b2 := (0, 0)) (b3 := (0, 0)) (q := 4) rfl rfl rfl rfl rfl rfl rfl rfl rfl ?_
  obtain ⟨hA, hB⟩ := h
  refine ok_Lat_canEncode (by omega)  (fun c_1 => ?_) (fun c_1 => ?_)
  · have h := hA c_1
    clear hA hB
    show am_Run am_X0 (am_meth d) 255 R 4 [some (.float 3), some (.int x), some (.int 0), some (.int 10)] [.int 1] (am_mk I L, 0, 0)
    refine ar_b0 am_c_ne (t := 9) (q := 7) rfl rfl rfl (fun _ => ?_) (fun c9 => absurd (by decide) c9)
    refine ar_iload_n (j := 2) (q := 10) rfl rfl rfl rfl ?_
    refine ar_iconst (v := 0) (q := 11) rfl rfl rfl ?_
    refine ar_invs (as := [.int 0, .int 0]) (rest := []) (b2 := (0, 0)) (b3 := (0, 0)) (q := 14) rfl rfl rfl rfl rfl rfl rfl rfl rfl ?_
    obtain ⟨d9, rfl⟩ : ∃ d9, d = d9 + 1 := ⟨d - 1, by omega⟩
    refine ar_max ?_
    show am_Run am_X0 (am_meth (d9 + 1)) 255 R 14 [some (.float 3), some (.int x), some (.int 0), some (.int 10)] [.int (if (0 : Int32) < 0 then (0 : Int32) else 0)] (am_mk I L, 0, 0)
    generalize hd9 : d9 + 1 = d at *
    refine ar_istore_n (j := 2) (ls' := [some (.float 3), some (.int x), some (.int (if (0 : Int32) < 0 then (0 : Int32) else 0)), some (.int 10)]) (q := 15) rfl rfl rfl rfl rfl ?_
    refine ar_iload_n (j := 3) (q := 16) rfl rfl rfl rfl ?_
    refine ar_aload_nx (j := 0) (q := 17) rfl rfl rfl rfl ?_
    refine ar_st (i := .arraylength) (n := 1) (st' := [.int 10, .int 10]) (q := 18) rfl rfl rfl rfl ?_
    refine ar_invs (as := [.int 10, .int 10]) (rest := []) (b2 := (0, 0)) (b3 := (0, 0)) (q := 21) rfl rfl rfl rfl rfl rfl rfl rfl rfl ?_
    obtain ⟨d9, rfl⟩ : ∃ d9, d = d9 + 1 := ⟨d - 1, by omega⟩
    refine ar_min ?_
    show am_Run am_X0 (am_meth (d9 + 1)) 255 R 21 [some (.float 3), some (.int x), some (.int (if (0 : Int32) < 0 then (0 : Int32) else 0)), some (.int 10)] [.int (if (10 : Int32) < 10 then (10 : Int32) else 10)] (am_mk I L, 0, 0)
    generalize hd9 : d9 + 1 = d at *
    refine ar_istore_n (j := 3) (ls' := [some (.float 3), some (.int x), some (.int (if (0 : Int32) < 0 then (0 : Int32) else 0)), some (.int (if (10 : Int32) < 10 then (10 : Int32) else 10))]) (q := 22) rfl rfl rfl rfl rfl ?_
    refine ar_iload_n (j := 2) (q := 23) rfl rfl rfl rfl ?_
    refine ar_iload_n (j := 3) (q := 24) rfl rfl rfl rfl ?_
    obtain ⟨hA, hB⟩ := h
    refine ar_br am_c_lt (t := 29) (q := 27) rfl rfl rfl (fun c_2 => ?_) (fun c_2 => ?_)
    · have h := hA c_2
      clear hA hB
      refine ar_aload_nx (j := 0) (q := 30) rfl rfl rfl rfl ?_
      refine ar_iload_n (j := 1) (q := 31) rfl rfl rfl rfl ?_
      refine ar_iload_n (j := 2) (q := 32) rfl rfl rfl rfl ?_
      refine ar_iload_n (j := 3) (q := 33) rfl rfl rfl rfl ?_
      refine ar_invs (as := [.float 3, .int x, .int (if (0 : Int32) < 0 then (0 : Int32) else 0), .int (if (10 : Int32) < 10 then (10 : Int32) else 10)]) (rest := []) (b2 := (0, 0)) (b3 := (0, 0)) (q := 36) rfl rfl rfl rfl rfl rfl rfl rfl rfl ?_
      refine am_meth_mono d _ _ _ _ _ (fun v9 m9 h9 => ?_) h
      obtain ⟨z_3, I_4, L_5, rfl, rfl, h⟩ := h9
      show am_Run am_X0 (am_meth d) 255 R 36 [some (.float 3), some (.int x), some (.int (if (0 : Int32) < 0 then (0 : Int32) else 0)), some (.int (if (10 : Int32) < 10 then (10 : Int32) else 10))] [.int z_3] (am_mk I_4 L_5, 0, 0)
      exact ar_iret rfl rfl h
    · have h := hB c_2
      clear hA hB
      refine ar_iconst (v := (-1 : Int32)) (q := 28) rfl rfl rfl ?_
      exact ar_iret rfl rfl h
  · have h := hB c_1
    clear hA hB
    show am_Run am_X0 (am_meth d) 255 R 4 [some (.float 3), some (.int x), some (.int 0), some (.int 10)] [.int 0] (am_mk I L, 0, 0)
    refine ar_b0 am_c_ne (t := 9) (q := 7) rfl rfl rfl (fun c9 => absurd (by decide) c9) (fun _ => ?_)
    refine ar_iconst (v := (-1 : Int32)) (q := 8) rfl rfl rfl ?_
    exact ar_iret rfl rfl h
theorem r_Text_read_0 {d : Nat} (hd : 1 ≤ d) {R : am_R} {I : Nat → Nat → Int32} {L : Nat → Nat → Int64}  (h : ∀ I_1 : Nat → Nat → Int32, I_1 = va_up I 93 (upd (I 93) 0 0) → (∀ I_3 : Nat → Nat → Int32, I_3 = va_up I_1 93 (upd (I_1 93) 3 0) → (∀ I_5 : Nat → Nat → Int32, I_5 = va_up I_3 93 (upd (I_3 93) 4 (-1 : Int32)) → (am_meth d 135 [.ref 93, .int 0] (am_mk I_5 L, 0, 0) (am_rv (fun I_7 L_8 => (((I_7 93 3) < (I_7 91 0) → (R (some (.int ((w_fl I_7) 93 4))) (am_mk (w_fl I_7) L_8, 0, 0))) ∧ (¬ (I_7 93 3) < (I_7 91 0) → (R (some (.int (I_7 93 4))) (am_mk I_7 L_8, 0, 0)))))))))) : am_Run am_X0 (am_meth d) 134 R 0 [some (.ref 93)] [] (am_mk I L, 0, 0) := by
  refine ar_aload_n (j := 0) (q := 1) rfl rfl rfl rfl ?_
  refine ar_iconst (v := 0) (q := 2) rfl rfl rfl ?_
  obtain ⟨I_1, hI_2⟩ : ∃ z : Nat → Nat → Int32, z = va_up I 93 (upd (I 93) 0 0) := ⟨_, rfl⟩
  have h := h I_1 hI_2
  refine ar_putf (hp2 := am_mk I_1 L) (q := 5) rfl rfl mk_93 rfl (by rw [hI_2]; exact mk_p93_0) rfl ?_
  refine ar_aload_n (j := 0) (q := 6) rfl rfl rfl rfl ?_
  refine ar_iconst (v := 0) (q := 7) rfl rfl rfl ?_
  obtain ⟨I_3, hI_4⟩ : ∃ z : Nat → Nat → Int32, z = va_up I_1 93 (upd (I_1 93) 3 0) := ⟨_, rfl⟩
  have h := h I_3 hI_4
  refine ar_putf (hp2 := am_mk I_3 L) (q := 10) rfl rfl mk_93 rfl (by rw [hI_4]; exact mk_p93_3) rfl ?_
  refine ar_aload_n (j := 0) (q := 11) rfl rfl rfl rfl ?_
  refine ar_iconst (v := (-1 : Int32)) (q := 12) rfl rfl rfl ?_
  obtain ⟨I_5, hI_6⟩ : ∃ z : Nat → Nat → Int32, z = va_up I_3 93 (upd (I_3 93) 4 (-1 : Int32)) := ⟨_, rfl⟩
  have h := h I_5 hI_6
  refine ar_putf (hp2 := am_mk I_5 L) (q := 15) rfl rfl mk_93 rfl (by rw [hI_6]; exact mk_p93_4) rfl ?_
  refine ar_aload_n (j := 0) (q := 16) rfl rfl rfl rfl ?_
  refine ar_iconst (v := 0) (q := 17) rfl rfl rfl ?_
  refine ar_invv (as := [.int 0]) (rest := []) (b2 := (0, 0)) (b3 := (0, 0)) (q := 20) rfl rfl rfl rfl mk_93 rfl rfl rfl rfl rfl ?_
  refine am_meth_mono d _ _ _ _ _ (fun v9 m9 h9 => ?_) h
  obtain ⟨I_7, L_8, rfl, rfl, h⟩ := h9
  show am_Run am_X0 (am_meth d) 134 R 20 [some (.ref 93)] [] (am_mk I_7 L_8, 0, 0)
  refine ar_aload_n (j := 0) (q := 21) rfl rfl rfl rfl ?_
  refine ar_getf (v := .int (I_7 93 3)) (q := 24) rfl rfl mk_93 rfl rfl ?_
  refine ar_aload_n (j := 0) (q := 25) rfl rfl rfl rfl ?_
  refine ar_getf (v := .ref 91) (q := 28) rfl rfl mk_93 rfl rfl ?_
  refine ar_getf (v := .int (I_7 91 0)) (q := 31) rfl rfl mk_91 rfl rfl ?_
  obtain ⟨hA, hB⟩ := h
  refine ar_br am_d_ge (t := 38) (q := 34) rfl rfl rfl (fun c_9 => ?_) (fun c_9 => ?_)
  · have h := hB c_9
    clear hA hB
    refine ar_aload_n (j := 0) (q := 39) rfl rfl rfl rfl ?_
    refine ar_getf (v := .int (I_7 93 4)) (q := 42) rfl rfl mk_93 rfl rfl ?_
    exact ar_iret rfl rfl h
  · have c_9 := Classical.not_not.mp c_9
    have h := hA c_9
    clear hA hB
    refine ar_aload_n (j := 0) (q := 35) rfl rfl rfl rfl ?_
    refine ar_invv (as := []) (rest := []) (b2 := (0, 0)) (b3 := (0, 0)) (q := 38) rfl rfl rfl rfl mk_93 rfl rfl rfl rfl rfl ?_
    refine ok_Tx_fail (by omega)  ?_
    show am_Run am_X0 (am_meth d) 134 R 38 [some (.ref 93)] [] (am_mk (w_fl I_7) L_8, 0, 0)
    refine ar_aload_n (j := 0) (q := 39) rfl rfl rfl rfl ?_
    refine ar_getf (v := .int ((w_fl I_7) 93 4)) (q := 42) rfl rfl mk_93 rfl rfl ?_
    exact ar_iret rfl rfl h
theorem r_Text_readSum_0 {d : Nat} {R : am_R} {I : Nat → Nat → Int32} {L : Nat → Nat → Int64} {p : Nat} (h : am_meth d 136 [.ref 93, .int (nI p)] (am_mk I L, 0, 0) (am_rv (fun I_1 L_2 => am_Run am_X0 (am_meth d) 135 R 7 [some (.ref 93), some (.int (nI p)), some (.int 0), none] [] (am_mk I_1 L_2, 0, 0)))) : am_Run am_X0 (am_meth d) 135 R 0 [some (.ref 93), some (.int (nI p)), none, none] [] (am_mk I L, 0, 0) := by
  refine ar_aload_n (j := 0) (q := 1) rfl rfl rfl rfl ?_
  refine ar_iload_n (j := 1) (q := 2) rfl rfl rfl rfl ?_
  refine ar_invv (as := [.int (nI p)]) (rest := []) (b2 := (0, 0)) (b3 := (0, 0)) (q := 5) rfl rfl rfl rfl mk_93 rfl rfl rfl rfl rfl ?_
  refine am_meth_mono d _ _ _ _ _ (fun v9 m9 h9 => ?_) h
  obtain ⟨I_1, L_2, rfl, rfl, h⟩ := h9
  show am_Run am_X0 (am_meth d) 135 R 5 [some (.ref 93), some (.int (nI p)), none, none] [] (am_mk I_1 L_2, 0, 0)
  refine ar_iconst (v := 0) (q := 6) rfl rfl rfl ?_
  refine ar_istore_n (j := 2) (ls' := [some (.ref 93), some (.int (nI p)), some (.int 0), none]) (q := 7) rfl rfl rfl rfl rfl ?_
  exact am_Run.weak (ls' := _) (by exact ⟨rfl, ⟨rfl, ⟨rfl, trivial⟩⟩⟩) h
theorem r_Text_readSum_7 {d : Nat} (hd : 2 ≤ d) {R : am_R} {I : Nat → Nat → Int32} {L : Nat → Nat → Int64} {p : Nat} {j : Nat} (h : (((nI j) < 60 → ((((I 93 4) = (-1 : Int32) → ((am_ix I 91 0 61) ∧ ((((w_nx I) = 43 → (∀ I_5 : Nat → Nat → Int32, I_5 = va_up I 93 (upd (I 93) 3 ((I 93 3) + 1)) → (am_meth d 136 [.ref 93, .int (nI p)] (am_mk I_5 L, 0, 0) (am_rv (fun I_7 L_8 => (am_ix I_7 93 0 61) ∧ (am_Run am_X0 (am_meth d) 135 R 7 [some (.ref 93), some (.int (nI p)), some (.int (nI (j + 1))), none] [] (am_mk (w_as I_7 (-(w_nx I))) L_8, 0, 0))))))) ∧ (¬ (w_nx I) = 43 → ((((w_nx I) = 45 → (∀ I_11 : Nat → Nat → Int32, I_11 = va_up I 93 (upd (I 93) 3 ((I 93 3) + 1)) → (am_meth d 136 [.ref 93, .int (nI p)] (am_mk I_11 L, 0, 0) (am_rv (fun I_13 L_14 => (am_ix I_13 93 0 61) ∧ (am_Run am_X0 (am_meth d) 135 R 7 [some (.ref 93), some (.int (nI p)), some (.int (nI (j + 1))), none] [] (am_mk (w_as I_13 (-(w_nx I))) L_14, 0, 0))))))) ∧ (¬ (w_nx I) = 45 → (R none (am_mk I L, 0, 0)))))))))) ∧ (¬ (I 93 4) = (-1 : Int32) → (R none (am_mk I L, 0, 0)))))) ∧ (¬ (nI j) < 60 → (R none (am_mk I L, 0, 0))))) : am_Run am_X0 (am_meth d) 135 R 7 [some (.ref 93), some (.int (nI p)), some (.int (nI j)), none] [] (am_mk I L, 0, 0) := by
  refine ar_iload_n (j := 2) (q := 8) rfl rfl rfl rfl ?_
  refine ar_bipush (v := 60) (q := 10) rfl rfl rfl ?_
  obtain ⟨hA, hB⟩ := h
  refine ar_br am_d_ge (t := 68) (q := 13) rfl rfl rfl (fun c_1 => ?_) (fun c_1 => ?_)
  · have h := hB c_1
    clear hA hB
    exact ar_vret rfl rfl h
  · have c_1 := Classical.not_not.mp c_1
    have h := hA c_1
    clear hA hB
    refine ar_aload_n (j := 0) (q := 14) rfl rfl rfl rfl ?_
    refine ar_getf (v := .int (I 93 4)) (q := 17) rfl rfl mk_93 rfl rfl ?_
    refine ar_iconst (v := (-1 : Int32)) (q := 18) rfl rfl rfl ?_
    obtain ⟨hA, hB⟩ := h
    refine ar_br am_c_ne (t := 68) (q := 21) rfl rfl rfl (fun c_2 => ?_) (fun c_2 => ?_)
    · have h := hB c_2
      clear hA hB
      exact ar_vret rfl rfl h
    · have c_2 := Classical.not_not.mp c_2
      have h := hA c_2
      clear hA hB
      refine ar_aload_n (j := 0) (q := 22) rfl rfl rfl rfl ?_
      refine ar_invv (as := []) (rest := []) (b2 := (0, 0)) (b3 := (0, 0)) (q := 25) rfl rfl rfl rfl mk_93 rfl rfl rfl rfl rfl ?_
      obtain ⟨hp_3, h⟩ := h
      refine ok_Tx_next (by omega) hp_3 ?_
      show am_Run am_X0 (am_meth d) 135 R 25 [some (.ref 93), some (.int (nI p)), some (.int (nI j)), none] [.int (w_nx I)] (am_mk I L, 0, 0)
      refine ar_istore_n (j := 3) (ls' := [some (.ref 93), some (.int (nI p)), some (.int (nI j)), some (.int (w_nx I))]) (q := 26) rfl rfl rfl rfl rfl ?_
      refine ar_iload_n (j := 3) (q := 27) rfl rfl rfl rfl ?_
      refine ar_bipush (v := 43) (q := 29) rfl rfl rfl ?_
      obtain ⟨hA, hB⟩ := h
      refine ar_br am_c_eq (t := 41) (q := 32) rfl rfl rfl (fun c_4 => ?_) (fun c_4 => ?_)
      · have h := hA c_4
        clear hA hB
        refine ar_aload_n (j := 0) (q := 42) rfl rfl rfl rfl ?_
        refine ar_st (i := .dup) (n := 1) (st' := [.ref 93, .ref 93]) (q := 43) rfl rfl rfl rfl ?_
        refine ar_getf (v := .int (I 93 3)) (q := 46) rfl rfl mk_93 rfl rfl ?_
        refine ar_iconst (v := 1) (q := 47) rfl rfl rfl ?_
        refine ar_ib (i := .iadd) (z := (I 93 3) + 1) (q := 48) rfl rfl rfl rfl rfl ?_
        obtain ⟨I_5, hI_6⟩ : ∃ z : Nat → Nat → Int32, z = va_up I 93 (upd (I 93) 3 ((I 93 3) + 1)) := ⟨_, rfl⟩
        have h := h I_5 hI_6
        refine ar_putf (hp2 := am_mk I_5 L) (q := 51) rfl rfl mk_93 rfl (by rw [hI_6]; exact mk_p93_3) rfl ?_
        refine ar_aload_n (j := 0) (q := 52) rfl rfl rfl rfl ?_
        refine ar_iload_n (j := 1) (q := 53) rfl rfl rfl rfl ?_
        refine ar_invv (as := [.int (nI p)]) (rest := []) (b2 := (0, 0)) (b3 := (0, 0)) (q := 56) rfl rfl rfl rfl mk_93 rfl rfl rfl rfl rfl ?_
        refine am_meth_mono d _ _ _ _ _ (fun v9 m9 h9 => ?_) h
        obtain ⟨I_7, L_8, rfl, rfl, h⟩ := h9
        show am_Run am_X0 (am_meth d) 135 R 56 [some (.ref 93), some (.int (nI p)), some (.int (nI j)), some (.int (w_nx I))] [] (am_mk I_7 L_8, 0, 0)
        refine ar_aload_n (j := 0) (q := 57) rfl rfl rfl rfl ?_
        refine ar_iload_n (j := 3) (q := 58) rfl rfl rfl rfl ?_
        refine ar_st (i := .ineg) (n := 1) (st' := [.int (-(w_nx I)), .ref 93]) (q := 59) rfl rfl rfl rfl ?_
        refine ar_invv (as := [.int (-(w_nx I))]) (rest := []) (b2 := (0, 0)) (b3 := (0, 0)) (q := 62) rfl rfl rfl rfl mk_93 rfl rfl rfl rfl rfl ?_
        obtain ⟨hp_9, h⟩ := h
        refine ok_Tx_addStep (by omega) hp_9 ?_
        show am_Run am_X0 (am_meth d) 135 R 62 [some (.ref 93), some (.int (nI p)), some (.int (nI j)), some (.int (w_nx I))] [] (am_mk (w_as I_7 (-(w_nx I))) L_8, 0, 0)
        refine ar_iinc (v := nI (j + 1)) (ls' := [some (.ref 93), some (.int (nI p)), some (.int (nI (j + 1))), some (.int (w_nx I))]) (q := 65) rfl rfl rfl (nI_1 _) rfl rfl ?_
        refine ar_goto (t := 7) rfl rfl ?_
        exact am_Run.weak (ls' := _) (by exact ⟨rfl, ⟨rfl, ⟨rfl, trivial⟩⟩⟩) h
      · have h := hB c_4
        clear hA hB
        refine ar_iload_n (j := 3) (q := 33) rfl rfl rfl rfl ?_
        refine ar_bipush (v := 45) (q := 35) rfl rfl rfl ?_
        obtain ⟨hA, hB⟩ := h
        refine ar_br am_c_eq (t := 41) (q := 38) rfl rfl rfl (fun c_10 => ?_) (fun c_10 => ?_)
        · have h := hA c_10
          clear hA hB
          refine ar_aload_n (j := 0) (q := 42) rfl rfl rfl rfl ?_
          refine ar_st (i := .dup) (n := 1) (st' := [.ref 93, .ref 93]) (q := 43) rfl rfl rfl rfl ?_
          refine ar_getf (v := .int (I 93 3)) (q := 46) rfl rfl mk_93 rfl rfl ?_
          refine ar_iconst (v := 1) (q := 47) rfl rfl rfl ?_
          refine ar_ib (i := .iadd) (z := (I 93 3) + 1) (q := 48) rfl rfl rfl rfl rfl ?_
          obtain ⟨I_11, hI_12⟩ : ∃ z : Nat → Nat → Int32, z = va_up I 93 (upd (I 93) 3 ((I 93 3) + 1)) := ⟨_, rfl⟩
          have h := h I_11 hI_12
          refine ar_putf (hp2 := am_mk I_11 L) (q := 51) rfl rfl mk_93 rfl (by rw [hI_12]; exact mk_p93_3) rfl ?_
          refine ar_aload_n (j := 0) (q := 52) rfl rfl rfl rfl ?_
          refine ar_iload_n (j := 1) (q := 53) rfl rfl rfl rfl ?_
          refine ar_invv (as := [.int (nI p)]) (rest := []) (b2 := (0, 0)) (b3 := (0, 0)) (q := 56) rfl rfl rfl rfl mk_93 rfl rfl rfl rfl rfl ?_
          refine am_meth_mono d _ _ _ _ _ (fun v9 m9 h9 => ?_) h
          obtain ⟨I_13, L_14, rfl, rfl, h⟩ := h9
          show am_Run am_X0 (am_meth d) 135 R 56 [some (.ref 93), some (.int (nI p)), some (.int (nI j)), some (.int (w_nx I))] [] (am_mk I_13 L_14, 0, 0)
          refine ar_aload_n (j := 0) (q := 57) rfl rfl rfl rfl ?_
          refine ar_iload_n (j := 3) (q := 58) rfl rfl rfl rfl ?_
          refine ar_st (i := .ineg) (n := 1) (st' := [.int (-(w_nx I)), .ref 93]) (q := 59) rfl rfl rfl rfl ?_
          refine ar_invv (as := [.int (-(w_nx I))]) (rest := []) (b2 := (0, 0)) (b3 := (0, 0)) (q := 62) rfl rfl rfl rfl mk_93 rfl rfl rfl rfl rfl ?_
          obtain ⟨hp_15, h⟩ := h
          refine ok_Tx_addStep (by omega) hp_15 ?_
          show am_Run am_X0 (am_meth d) 135 R 62 [some (.ref 93), some (.int (nI p)), some (.int (nI j)), some (.int (w_nx I))] [] (am_mk (w_as I_13 (-(w_nx I))) L_14, 0, 0)
          refine ar_iinc (v := nI (j + 1)) (ls' := [some (.ref 93), some (.int (nI p)), some (.int (nI (j + 1))), some (.int (w_nx I))]) (q := 65) rfl rfl rfl (nI_1 _) rfl rfl ?_
          refine ar_goto (t := 7) rfl rfl ?_
          exact am_Run.weak (ls' := _) (by exact ⟨rfl, ⟨rfl, ⟨rfl, trivial⟩⟩⟩) h
        · have h := hB c_10
          clear hA hB
          refine ar_goto (t := 68) rfl rfl ?_
          exact ar_vret rfl rfl h
theorem r_Text_readProduct_0 {d : Nat} {R : am_R} {I : Nat → Nat → Int32} {L : Nat → Nat → Int64} {p : Nat} (h : am_meth d 137 [.ref 93, .int (nI p)] (am_mk I L, 0, 0) (am_rv (fun I_1 L_2 => am_Run am_X0 (am_meth d) 136 R 7 [some (.ref 93), some (.int (nI p)), some (.int 0), none] [] (am_mk I_1 L_2, 0, 0)))) : am_Run am_X0 (am_meth d) 136 R 0 [some (.ref 93), some (.int (nI p)), none, none] [] (am_mk I L, 0, 0) := by
  refine ar_aload_n (j := 0) (q := 1) rfl rfl rfl rfl ?_
  refine ar_iload_n (j := 1) (q := 2) rfl rfl rfl rfl ?_
  refine ar_invv (as := [.int (nI p)]) (rest := []) (b2 := (0, 0)) (b3 := (0, 0)) (q := 5) rfl rfl rfl rfl mk_93 rfl rfl rfl rfl rfl ?_
  refine am_meth_mono d _ _ _ _ _ (fun v9 m9 h9 => ?_) h
  obtain ⟨I_1, L_2, rfl, rfl, h⟩ := h9
  show am_Run am_X0 (am_meth d) 136 R 5 [some (.ref 93), some (.int (nI p)), none, none] [] (am_mk I_1 L_2, 0, 0)
  refine ar_iconst (v := 0) (q := 6) rfl rfl rfl ?_
  refine ar_istore_n (j := 2) (ls' := [some (.ref 93), some (.int (nI p)), some (.int 0), none]) (q := 7) rfl rfl rfl rfl rfl ?_
  exact am_Run.weak (ls' := _) (by exact ⟨rfl, ⟨rfl, ⟨rfl, trivial⟩⟩⟩) h
theorem r_Text_readProduct_7 {d : Nat} (hd : 2 ≤ d) {R : am_R} {I : Nat → Nat → Int32} {L : Nat → Nat → Int64} {p : Nat} {j : Nat} (h : (((nI j) < 60 → ((((I 93 4) = (-1 : Int32) → ((am_ix I 91 0 61) ∧ ((((w_nx I) = 42 → (∀ I_5 : Nat → Nat → Int32, I_5 = va_up I 93 (upd (I 93) 3 ((I 93 3) + 1)) → (am_meth d 137 [.ref 93, .int (nI p)] (am_mk I_5 L, 0, 0) (am_rv (fun I_7 L_8 => (am_ix I_7 93 0 61) ∧ (am_Run am_X0 (am_meth d) 136 R 7 [some (.ref 93), some (.int (nI p)), some (.int (nI (j + 1))), none] [] (am_mk (w_as I_7 (-(w_nx I))) L_8, 0, 0))))))) ∧ (¬ (w_nx I) = 42 → ((((w_nx I) = 47 → (∀ I_11 : Nat → Nat → Int32, I_11 = va_up I 93 (upd (I 93) 3 ((I 93 3) + 1)) → (am_meth d 137 [.ref 93, .int (nI p)] (am_mk I_11 L, 0, 0) (am_rv (fun I_13 L_14 => (am_ix I_13 93 0 61) ∧ (am_Run am_X0 (am_meth d) 136 R 7 [some (.ref 93), some (.int (nI p)), some (.int (nI (j + 1))), none] [] (am_mk (w_as I_13 (-(w_nx I))) L_14, 0, 0))))))) ∧ (¬ (w_nx I) = 47 → (R none (am_mk I L, 0, 0)))))))))) ∧ (¬ (I 93 4) = (-1 : Int32) → (R none (am_mk I L, 0, 0)))))) ∧ (¬ (nI j) < 60 → (R none (am_mk I L, 0, 0))))) : am_Run am_X0 (am_meth d) 136 R 7 [some (.ref 93), some (.int (nI p)), some (.int (nI j)), none] [] (am_mk I L, 0, 0) := by
  refine ar_iload_n (j := 2) (q := 8) rfl rfl rfl rfl ?_
  refine ar_bipush (v := 60) (q := 10) rfl rfl rfl ?_
  obtain ⟨hA, hB⟩ := h
  refine ar_br am_d_ge (t := 68) (q := 13) rfl rfl rfl (fun c_1 => ?_) (fun c_1 => ?_)
  · have h := hB c_1
    clear hA hB
    exact ar_vret rfl rfl h
  · have c_1 := Classical.not_not.mp c_1
    have h := hA c_1
    clear hA hB
    refine ar_aload_n (j := 0) (q := 14) rfl rfl rfl rfl ?_
    refine ar_getf (v := .int (I 93 4)) (q := 17) rfl rfl mk_93 rfl rfl ?_
    refine ar_iconst (v := (-1 : Int32)) (q := 18) rfl rfl rfl ?_
    obtain ⟨hA, hB⟩ := h
    refine ar_br am_c_ne (t := 68) (q := 21) rfl rfl rfl (fun c_2 => ?_) (fun c_2 => ?_)
    · have h := hB c_2
      clear hA hB
      exact ar_vret rfl rfl h
    · have c_2 := Classical.not_not.mp c_2
      have h := hA c_2
      clear hA hB
      refine ar_aload_n (j := 0) (q := 22) rfl rfl rfl rfl ?_
      refine ar_invv (as := []) (rest := []) (b2 := (0, 0)) (b3 := (0, 0)) (q := 25) rfl rfl rfl rfl mk_93 rfl rfl rfl rfl rfl ?_
      obtain ⟨hp_3, h⟩ := h
      refine ok_Tx_next (by omega) hp_3 ?_
      show am_Run am_X0 (am_meth d) 136 R 25 [some (.ref 93), some (.int (nI p)), some (.int (nI j)), none] [.int (w_nx I)] (am_mk I L, 0, 0)
      refine ar_istore_n (j := 3) (ls' := [some (.ref 93), some (.int (nI p)), some (.int (nI j)), some (.int (w_nx I))]) (q := 26) rfl rfl rfl rfl rfl ?_
      refine ar_iload_n (j := 3) (q := 27) rfl rfl rfl rfl ?_
      refine ar_bipush (v := 42) (q := 29) rfl rfl rfl ?_
      obtain ⟨hA, hB⟩ := h
      refine ar_br am_c_eq (t := 41) (q := 32) rfl rfl rfl (fun c_4 => ?_) (fun c_4 => ?_)
      · have h := hA c_4
        clear hA hB
        refine ar_aload_n (j := 0) (q := 42) rfl rfl rfl rfl ?_
        refine ar_st (i := .dup) (n := 1) (st' := [.ref 93, .ref 93]) (q := 43) rfl rfl rfl rfl ?_
        refine ar_getf (v := .int (I 93 3)) (q := 46) rfl rfl mk_93 rfl rfl ?_
        refine ar_iconst (v := 1) (q := 47) rfl rfl rfl ?_
        refine ar_ib (i := .iadd) (z := (I 93 3) + 1) (q := 48) rfl rfl rfl rfl rfl ?_
        obtain ⟨I_5, hI_6⟩ : ∃ z : Nat → Nat → Int32, z = va_up I 93 (upd (I 93) 3 ((I 93 3) + 1)) := ⟨_, rfl⟩
        have h := h I_5 hI_6
        refine ar_putf (hp2 := am_mk I_5 L) (q := 51) rfl rfl mk_93 rfl (by rw [hI_6]; exact mk_p93_3) rfl ?_
        refine ar_aload_n (j := 0) (q := 52) rfl rfl rfl rfl ?_
        refine ar_iload_n (j := 1) (q := 53) rfl rfl rfl rfl ?_
        refine ar_invv (as := [.int (nI p)]) (rest := []) (b2 := (0, 0)) (b3 := (0, 0)) (q := 56) rfl rfl rfl rfl mk_93 rfl rfl rfl rfl rfl ?_
        refine am_meth_mono d _ _ _ _ _ (fun v9 m9 h9 => ?_) h
        obtain ⟨I_7, L_8, rfl, rfl, h⟩ := h9
        show am_Run am_X0 (am_meth d) 136 R 56 [some (.ref 93), some (.int (nI p)), some (.int (nI j)), some (.int (w_nx I))] [] (am_mk I_7 L_8, 0, 0)
        refine ar_aload_n (j := 0) (q := 57) rfl rfl rfl rfl ?_
        refine ar_iload_n (j := 3) (q := 58) rfl rfl rfl rfl ?_
        refine ar_st (i := .ineg) (n := 1) (st' := [.int (-(w_nx I)), .ref 93]) (q := 59) rfl rfl rfl rfl ?_
        refine ar_invv (as := [.int (-(w_nx I))]) (rest := []) (b2 := (0, 0)) (b3 := (0, 0)) (q := 62) rfl rfl rfl rfl mk_93 rfl rfl rfl rfl rfl ?_
        obtain ⟨hp_9, h⟩ := h
        refine ok_Tx_addStep (by omega) hp_9 ?_
        show am_Run am_X0 (am_meth d) 136 R 62 [some (.ref 93), some (.int (nI p)), some (.int (nI j)), some (.int (w_nx I))] [] (am_mk (w_as I_7 (-(w_nx I))) L_8, 0, 0)
        refine ar_iinc (v := nI (j + 1)) (ls' := [some (.ref 93), some (.int (nI p)), some (.int (nI (j + 1))), some (.int (w_nx I))]) (q := 65) rfl rfl rfl (nI_1 _) rfl rfl ?_
        refine ar_goto (t := 7) rfl rfl ?_
        exact am_Run.weak (ls' := _) (by exact ⟨rfl, ⟨rfl, ⟨rfl, trivial⟩⟩⟩) h
      · have h := hB c_4
        clear hA hB
        refine ar_iload_n (j := 3) (q := 33) rfl rfl rfl rfl ?_
        refine ar_bipush (v := 47) (q := 35) rfl rfl rfl ?_
        obtain ⟨hA, hB⟩ := h
        refine ar_br am_c_eq (t := 41) (q := 38) rfl rfl rfl (fun c_10 => ?_) (fun c_10 => ?_)
        · have h := hA c_10
          clear hA hB
          refine ar_aload_n (j := 0) (q := 42) rfl rfl rfl rfl ?_
          refine ar_st (i := .dup) (n := 1) (st' := [.ref 93, .ref 93]) (q := 43) rfl rfl rfl rfl ?_
          refine ar_getf (v := .int (I 93 3)) (q := 46) rfl rfl mk_93 rfl rfl ?_
          refine ar_iconst (v := 1) (q := 47) rfl rfl rfl ?_
          refine ar_ib (i := .iadd) (z := (I 93 3) + 1) (q := 48) rfl rfl rfl rfl rfl ?_
          obtain ⟨I_11, hI_12⟩ : ∃ z : Nat → Nat → Int32, z = va_up I 93 (upd (I 93) 3 ((I 93 3) + 1)) := ⟨_, rfl⟩
          have h := h I_11 hI_12
          refine ar_putf (hp2 := am_mk I_11 L) (q := 51) rfl rfl mk_93 rfl (by rw [hI_12]; exact mk_p93_3) rfl ?_
          refine ar_aload_n (j := 0) (q := 52) rfl rfl rfl rfl ?_
          refine ar_iload_n (j := 1) (q := 53) rfl rfl rfl rfl ?_
          refine ar_invv (as := [.int (nI p)]) (rest := []) (b2 := (0, 0)) (b3 := (0, 0)) (q := 56) rfl rfl rfl rfl mk_93 rfl rfl rfl rfl rfl ?_
          refine am_meth_mono d _ _ _ _ _ (fun v9 m9 h9 => ?_) h
          obtain ⟨I_13, L_14, rfl, rfl, h⟩ := h9
          show am_Run am_X0 (am_meth d) 136 R 56 [some (.ref 93), some (.int (nI p)), some (.int (nI j)), some (.int (w_nx I))] [] (am_mk I_13 L_14, 0, 0)
          refine ar_aload_n (j := 0) (q := 57) rfl rfl rfl rfl ?_
          refine ar_iload_n (j := 3) (q := 58) rfl rfl rfl rfl ?_
          refine ar_st (i := .ineg) (n := 1) (st' := [.int (-(w_nx I)), .ref 93]) (q := 59) rfl rfl rfl rfl ?_
          refine ar_invv (as := [.int (-(w_nx I))]) (rest := []) (b2 := (0, 0)) (b3 := (0, 0)) (q := 62) rfl rfl rfl rfl mk_93 rfl rfl rfl rfl rfl ?_
          obtain ⟨hp_15, h⟩ := h
          refine ok_Tx_addStep (by omega) hp_15 ?_
          show am_Run am_X0 (am_meth d) 136 R 62 [some (.ref 93), some (.int (nI p)), some (.int (nI j)), some (.int (w_nx I))] [] (am_mk (w_as I_13 (-(w_nx I))) L_14, 0, 0)
          refine ar_iinc (v := nI (j + 1)) (ls' := [some (.ref 93), some (.int (nI p)), some (.int (nI (j + 1))), some (.int (w_nx I))]) (q := 65) rfl rfl rfl (nI_1 _) rfl rfl ?_
          refine ar_goto (t := 7) rfl rfl ?_
          exact am_Run.weak (ls' := _) (by exact ⟨rfl, ⟨rfl, ⟨rfl, trivial⟩⟩⟩) h
        · have h := hB c_10
          clear hA hB
          refine ar_goto (t := 68) rfl rfl ?_
          exact ar_vret rfl rfl h
theorem r_Text_readUnit_0 {d : Nat} (hd : 2 ≤ d) {R : am_R} {I : Nat → Nat → Int32} {L : Nat → Nat → Int64} {p : Nat} (h : (am_ix I 91 0 61) ∧ (((p_dig (w_nx I) = true → (am_meth d 140 [.ref 93] (am_mk I L, 0, 0) (am_rv (fun I_3 L_4 => R none (am_mk I_3 L_4, 0, 0))))) ∧ (¬ (p_dig (w_nx I) = true) → ((((w_nx I) = 40 → ((((nI p) < 5 → (∀ I_7 : Nat → Nat → Int32, I_7 = va_up I 93 (upd (I 93) 3 ((I 93 3) + 1)) → (am_meth d 142 [.ref 93, .int ((nI p) + 1)] (am_mk I_7 L, 0, 0) (am_rv (fun I_9 L_10 => R none (am_mk I_9 L_10, 0, 0)))))) ∧ (¬ (nI p) < 5 → (am_meth d 144 [.ref 93, .int (w_nx I)] (am_mk I L, 0, 0) (am_rv (fun I_11 L_12 => R none (am_mk I_11 L_12, 0, 0)))))))) ∧ (¬ (w_nx I) = 40 → (am_meth d 144 [.ref 93, .int (w_nx I)] (am_mk I L, 0, 0) (am_rv (fun I_13 L_14 => R none (am_mk I_13 L_14, 0, 0))))))))))) : am_Run am_X0 (am_meth d) 137 R 0 [some (.ref 93), some (.int (nI p)), none] [] (am_mk I L, 0, 0) := by
  refine ar_aload_n (j := 0) (q := 1) rfl rfl rfl rfl ?_
  refine ar_invv (as := []) (rest := []) (b2 := (0, 0)) (b3 := (0, 0)) (q := 4) rfl rfl rfl rfl mk_93 rfl rfl rfl rfl rfl ?_
  obtain ⟨hp_1, h⟩ := h
  refine ok_Tx_next (by omega) hp_1 ?_
  show am_Run am_X0 (am_meth d) 137 R 4 [some (.ref 93), some (.int (nI p)), none] [.int (w_nx I)] (am_mk I L, 0, 0)
  refine ar_istore_n (j := 2) (ls' := [some (.ref 93), some (.int (nI p)), some (.int (w_nx I))]) (q := 5) rfl rfl rfl rfl rfl ?_
  refine ar_iload_n (j := 2) (q := 6) rfl rfl rfl rfl ?_
  refine ar_invs (as := [.int (w_nx I)]) (rest := []) (b2 := (0, 0)) (b3 := (0, 0)) (q := 9) rfl rfl rfl rfl rfl rfl rfl rfl rfl ?_
  obtain ⟨hA, hB⟩ := h
  refine ok_Tx_isDigit (by omega)  (fun c_2 => ?_) (fun c_2 => ?_)
  · have h := hA c_2
    clear hA hB
    show am_Run am_X0 (am_meth d) 137 R 9 [some (.ref 93), some (.int (nI p)), some (.int (w_nx I))] [.int 1] (am_mk I L, 0, 0)
    refine ar_b0 am_c_eq (t := 19) (q := 12) rfl rfl rfl (fun c9 => absurd c9 (by decide)) (fun _ => ?_)
    refine ar_aload_n (j := 0) (q := 13) rfl rfl rfl rfl ?_
    refine ar_invv (as := []) (rest := []) (b2 := (0, 0)) (b3 := (0, 0)) (q := 16) rfl rfl rfl rfl mk_93 rfl rfl rfl rfl rfl ?_
    refine am_meth_mono d _ _ _ _ _ (fun v9 m9 h9 => ?_) h
    obtain ⟨I_3, L_4, rfl, rfl, h⟩ := h9
    show am_Run am_X0 (am_meth d) 137 R 16 [some (.ref 93), some (.int (nI p)), some (.int (w_nx I))] [] (am_mk I_3 L_4, 0, 0)
    refine ar_goto (t := 55) rfl rfl ?_
    exact ar_vret rfl rfl h
  · have h := hB c_2
    clear hA hB
    show am_Run am_X0 (am_meth d) 137 R 9 [some (.ref 93), some (.int (nI p)), some (.int (w_nx I))] [.int 0] (am_mk I L, 0, 0)
    refine ar_b0 am_c_eq (t := 19) (q := 12) rfl rfl rfl (fun _ => ?_) (fun c9 => absurd (by decide) c9)
    refine ar_iload_n (j := 2) (q := 20) rfl rfl rfl rfl ?_
    refine ar_bipush (v := 40) (q := 22) rfl rfl rfl ?_
    obtain ⟨hA, hB⟩ := h
    refine ar_br am_c_ne (t := 50) (q := 25) rfl rfl rfl (fun c_5 => ?_) (fun c_5 => ?_)
    · have h := hB c_5
      clear hA hB
      refine ar_aload_n (j := 0) (q := 51) rfl rfl rfl rfl ?_
      refine ar_iload_n (j := 2) (q := 52) rfl rfl rfl rfl ?_
      refine ar_invv (as := [.int (w_nx I)]) (rest := []) (b2 := (0, 0)) (b3 := (0, 0)) (q := 55) rfl rfl rfl rfl mk_93 rfl rfl rfl rfl rfl ?_
      refine am_meth_mono d _ _ _ _ _ (fun v9 m9 h9 => ?_) h
      obtain ⟨I_13, L_14, rfl, rfl, h⟩ := h9
      show am_Run am_X0 (am_meth d) 137 R 55 [some (.ref 93), some (.int (nI p)), some (.int (w_nx I))] [] (am_mk I_13 L_14, 0, 0)
      exact ar_vret rfl rfl h
    · have c_5 := Classical.not_not.mp c_5
      have h := hA c_5
      clear hA hB
      refine ar_iload_n (j := 1) (q := 26) rfl rfl rfl rfl ?_
      refine ar_iconst (v := 5) (q := 27) rfl rfl rfl ?_
      obtain ⟨hA, hB⟩ := h
      refine ar_br am_d_ge (t := 50) (q := 30) rfl rfl rfl (fun c_6 => ?_) (fun c_6 => ?_)
      · have h := hB c_6
        clear hA hB
        refine ar_aload_n (j := 0) (q := 51) rfl rfl rfl rfl ?_
        refine ar_iload_n (j := 2) (q := 52) rfl rfl rfl rfl ?_
        refine ar_invv (as := [.int (w_nx I)]) (rest := []) (b2 := (0, 0)) (b3 := (0, 0)) (q := 55) rfl rfl rfl rfl mk_93 rfl rfl rfl rfl rfl ?_
        refine am_meth_mono d _ _ _ _ _ (fun v9 m9 h9 => ?_) h
        obtain ⟨I_11, L_12, rfl, rfl, h⟩ := h9
        show am_Run am_X0 (am_meth d) 137 R 55 [some (.ref 93), some (.int (nI p)), some (.int (w_nx I))] [] (am_mk I_11 L_12, 0, 0)
        exact ar_vret rfl rfl h
      · have c_6 := Classical.not_not.mp c_6
        have h := hA c_6
        clear hA hB
        refine ar_aload_n (j := 0) (q := 31) rfl rfl rfl rfl ?_
        refine ar_st (i := .dup) (n := 1) (st' := [.ref 93, .ref 93]) (q := 32) rfl rfl rfl rfl ?_
        refine ar_getf (v := .int (I 93 3)) (q := 35) rfl rfl mk_93 rfl rfl ?_
        refine ar_iconst (v := 1) (q := 36) rfl rfl rfl ?_
        refine ar_ib (i := .iadd) (z := (I 93 3) + 1) (q := 37) rfl rfl rfl rfl rfl ?_
        obtain ⟨I_7, hI_8⟩ : ∃ z : Nat → Nat → Int32, z = va_up I 93 (upd (I 93) 3 ((I 93 3) + 1)) := ⟨_, rfl⟩
        have h := h I_7 hI_8
        refine ar_putf (hp2 := am_mk I_7 L) (q := 40) rfl rfl mk_93 rfl (by rw [hI_8]; exact mk_p93_3) rfl ?_
        refine ar_aload_n (j := 0) (q := 41) rfl rfl rfl rfl ?_
        refine ar_iload_n (j := 1) (q := 42) rfl rfl rfl rfl ?_
        refine ar_iconst (v := 1) (q := 43) rfl rfl rfl ?_
        refine ar_ib (i := .iadd) (z := (nI p) + 1) (q := 44) rfl rfl rfl rfl rfl ?_
        refine ar_invv (as := [.int ((nI p) + 1)]) (rest := []) (b2 := (0, 0)) (b3 := (0, 0)) (q := 47) rfl rfl rfl rfl mk_93 rfl rfl rfl rfl rfl ?_
        refine am_meth_mono d _ _ _ _ _ (fun v9 m9 h9 => ?_) h
        obtain ⟨I_9, L_10, rfl, rfl, h⟩ := h9
        show am_Run am_X0 (am_meth d) 137 R 47 [some (.ref 93), some (.int (nI p)), some (.int (w_nx I))] [] (am_mk I_9 L_10, 0, 0)
        refine ar_goto (t := 55) rfl rfl ?_
        exact ar_vret rfl rfl h
theorem r_Text_readNumber_0 {d : Nat} {R : am_R} {I : Nat → Nat → Int32} {L : Nat → Nat → Int64}  (h : am_Run am_X0 (am_meth d) 140 R 4 [some (.ref 93), some (.int 0), some (.int 0)] [] (am_mk I L, 0, 0)) : am_Run am_X0 (am_meth d) 140 R 0 [some (.ref 93), none, none] [] (am_mk I L, 0, 0) := by
  refine ar_iconst (v := 0) (q := 1) rfl rfl rfl ?_
  refine ar_istore_n (j := 1) (ls' := [some (.ref 93), some (.int 0), none]) (q := 2) rfl rfl rfl rfl rfl ?_
  refine ar_iconst (v := 0) (q := 3) rfl rfl rfl ?_
  refine ar_istore_n (j := 2) (ls' := [some (.ref 93), some (.int 0), some (.int 0)]) (q := 4) rfl rfl rfl rfl rfl ?_
  exact am_Run.weak (ls' := _) (by exact ⟨rfl, ⟨rfl, ⟨rfl, trivial⟩⟩⟩) h
theorem r_Text_readNumber_4 {d : Nat} (hd : 2 ≤ d) {R : am_R} {I : Nat → Nat → Int32} {L : Nat → Nat → Int64} {a : Int32} {j : Nat} (h : (((nI j) < 5 → ((am_ix I 91 0 61) ∧ (((p_dig (w_nx I) = true → ((am_ix I 91 0 61) ∧ (∀ I_5 : Nat → Nat → Int32, I_5 = va_up I 93 (upd (I 93) 3 ((I 93 3) + 1)) → (am_Run am_X0 (am_meth d) 140 R 4 [some (.ref 93), some (.int (((a * 10) + (w_nx I)) - 48)), some (.int (nI (j + 1)))] [] (am_mk I_5 L, 0, 0))))) ∧ (¬ (p_dig (w_nx I) = true) → ((am_ix I 93 0 61) ∧ (R none (am_mk (w_as I a) L, 0, 0)))))))) ∧ (¬ (nI j) < 5 → ((am_ix I 93 0 61) ∧ (R none (am_mk (w_as I a) L, 0, 0)))))) : am_Run am_X0 (am_meth d) 140 R 4 [some (.ref 93), some (.int a), some (.int (nI j))] [] (am_mk I L, 0, 0) := by
  refine ar_iload_n (j := 2) (q := 5) rfl rfl rfl rfl ?_
  refine ar_iconst (v := 5) (q := 6) rfl rfl rfl ?_
  obtain ⟨hA, hB⟩ := h
  refine ar_br am_d_ge (t := 48) (q := 9) rfl rfl rfl (fun c_1 => ?_) (fun c_1 => ?_)
  · have h := hB c_1
    clear hA hB
    refine ar_aload_n (j := 0) (q := 49) rfl rfl rfl rfl ?_
    refine ar_iload_n (j := 1) (q := 50) rfl rfl rfl rfl ?_
    refine ar_invv (as := [.int a]) (rest := []) (b2 := (0, 0)) (b3 := (0, 0)) (q := 53) rfl rfl rfl rfl mk_93 rfl rfl rfl rfl rfl ?_
    obtain ⟨hp_8, h⟩ := h
    refine ok_Tx_addStep (by omega) hp_8 ?_
    show am_Run am_X0 (am_meth d) 140 R 53 [some (.ref 93), some (.int a), some (.int (nI j))] [] (am_mk (w_as I a) L, 0, 0)
    exact ar_vret rfl rfl h
  · have c_1 := Classical.not_not.mp c_1
    have h := hA c_1
    clear hA hB
    refine ar_aload_n (j := 0) (q := 10) rfl rfl rfl rfl ?_
    refine ar_invv (as := []) (rest := []) (b2 := (0, 0)) (b3 := (0, 0)) (q := 13) rfl rfl rfl rfl mk_93 rfl rfl rfl rfl rfl ?_
    obtain ⟨hp_2, h⟩ := h
    refine ok_Tx_next (by omega) hp_2 ?_
    show am_Run am_X0 (am_meth d) 140 R 13 [some (.ref 93), some (.int a), some (.int (nI j))] [.int (w_nx I)] (am_mk I L, 0, 0)
    refine ar_invs (as := [.int (w_nx I)]) (rest := []) (b2 := (0, 0)) (b3 := (0, 0)) (q := 16) rfl rfl rfl rfl rfl rfl rfl rfl rfl ?_
    obtain ⟨hA, hB⟩ := h
    refine ok_Tx_isDigit (by omega)  (fun c_3 => ?_) (fun c_3 => ?_)
    · have h := hA c_3
      clear hA hB
      show am_Run am_X0 (am_meth d) 140 R 16 [some (.ref 93), some (.int a), some (.int (nI j))] [.int 1] (am_mk I L, 0, 0)
      refine ar_b0 am_c_eq (t := 48) (q := 19) rfl rfl rfl (fun c9 => absurd c9 (by decide)) (fun _ => ?_)
      refine ar_iload_n (j := 1) (q := 20) rfl rfl rfl rfl ?_
      refine ar_bipush (v := 10) (q := 22) rfl rfl rfl ?_
      refine ar_ib (i := .imul) (z := a * 10) (q := 23) rfl rfl rfl rfl rfl ?_
      refine ar_aload_n (j := 0) (q := 24) rfl rfl rfl rfl ?_
      refine ar_invv (as := []) (rest := [.int (a * 10)]) (b2 := (0, 0)) (b3 := (0, 0)) (q := 27) rfl rfl rfl rfl mk_93 rfl rfl rfl rfl rfl ?_
      obtain ⟨hp_4, h⟩ := h
      refine ok_Tx_next (by omega) hp_4 ?_
      show am_Run am_X0 (am_meth d) 140 R 27 [some (.ref 93), some (.int a), some (.int (nI j))] [.int (w_nx I), .int (a * 10)] (am_mk I L, 0, 0)
      refine ar_ib (i := .iadd) (z := (a * 10) + (w_nx I)) (q := 28) rfl rfl rfl rfl rfl ?_
      refine ar_bipush (v := 48) (q := 30) rfl rfl rfl ?_
      refine ar_ib (i := .isub) (z := ((a * 10) + (w_nx I)) - 48) (q := 31) rfl rfl rfl rfl rfl ?_
      refine ar_istore_n (j := 1) (ls' := [some (.ref 93), some (.int (((a * 10) + (w_nx I)) - 48)), some (.int (nI j))]) (q := 32) rfl rfl rfl rfl rfl ?_
      refine ar_aload_n (j := 0) (q := 33) rfl rfl rfl rfl ?_
      refine ar_st (i := .dup) (n := 1) (st' := [.ref 93, .ref 93]) (q := 34) rfl rfl rfl rfl ?_
      refine ar_getf (v := .int (I 93 3)) (q := 37) rfl rfl mk_93 rfl rfl ?_
      refine ar_iconst (v := 1) (q := 38) rfl rfl rfl ?_
      refine ar_ib (i := .iadd) (z := (I 93 3) + 1) (q := 39) rfl rfl rfl rfl rfl ?_
      obtain ⟨I_5, hI_6⟩ : ∃ z : Nat → Nat → Int32, z = va_up I 93 (upd (I 93) 3 ((I 93 3) + 1)) := ⟨_, rfl⟩
      have h := h I_5 hI_6
      refine ar_putf (hp2 := am_mk I_5 L) (q := 42) rfl rfl mk_93 rfl (by rw [hI_6]; exact mk_p93_3) rfl ?_
      refine ar_iinc (v := nI (j + 1)) (ls' := [some (.ref 93), some (.int (((a * 10) + (w_nx I)) - 48)), some (.int (nI (j + 1)))]) (q := 45) rfl rfl rfl (nI_1 _) rfl rfl ?_
      refine ar_goto (t := 4) rfl rfl ?_
      exact am_Run.weak (ls' := _) (by exact ⟨rfl, ⟨rfl, ⟨rfl, trivial⟩⟩⟩) h
    · have h := hB c_3
      clear hA hB
      show am_Run am_X0 (am_meth d) 140 R 16 [some (.ref 93), some (.int a), some (.int (nI j))] [.int 0] (am_mk I L, 0, 0)
      refine ar_b0 am_c_eq (t := 48) (q := 19) rfl rfl rfl (fun _ => ?_) (fun c9 => absurd (by decide) c9)
      refine ar_aload_n (j := 0) (q := 49) rfl rfl rfl rfl ?_
      refine ar_iload_n (j := 1) (q := 50) rfl rfl rfl rfl ?_
      refine ar_invv (as := [.int a]) (rest := []) (b2 := (0, 0)) (b3 := (0, 0)) (q := 53) rfl rfl rfl rfl mk_93 rfl rfl rfl rfl rfl ?_
      obtain ⟨hp_7, h⟩ := h
      refine ok_Tx_addStep (by omega) hp_7 ?_
      show am_Run am_X0 (am_meth d) 140 R 53 [some (.ref 93), some (.int a), some (.int (nI j))] [] (am_mk (w_as I a) L, 0, 0)
      exact ar_vret rfl rfl h
theorem r_Text_readLetter_0 {d : Nat} (hd : 1 ≤ d) {R : am_R} {I : Nat → Nat → Int32} {L : Nat → Nat → Int64} {x : Int32} (h : ((x = (-1 : Int32) → (R none (am_mk (w_fl I) L, 0, 0))) ∧ (¬ x = (-1 : Int32) → (am_meth d 252 [.float 2, .int (((x : Int32).toUInt32 % 65536).toInt32)] (am_mk I L, 0, 0) (am_ri (fun z_2 I_3 L_4 => ((z_2 < 0 → (R none (am_mk (w_fl I_3) L_4, 0, 0))) ∧ (¬ z_2 < 0 → ((am_ix I_3 93 0 61) ∧ (∀ I_7 : Nat → Nat → Int32, I_7 = va_up (w_as I_3 (100000 + z_2)) 93 (upd ((w_as I_3 (100000 + z_2)) 93) 3 (((w_as I_3 (100000 + z_2)) 93 3) + 1)) → (R none (am_mk I_7 L_4, 0, 0)))))))))))) : am_Run am_X0 (am_meth d) 144 R 0 [some (.ref 93), some (.int x), none] [] (am_mk I L, 0, 0) := by
  refine ar_iload_n (j := 1) (q := 1) rfl rfl rfl rfl ?_
  refine ar_iconst (v := (-1 : Int32)) (q := 2) rfl rfl rfl ?_
  obtain ⟨hA, hB⟩ := h
  refine ar_br am_c_ne (t := 9) (q := 5) rfl rfl rfl (fun c_1 => ?_) (fun c_1 => ?_)
  · have h := hB c_1
    clear hA hB
    refine ar_ldcs (q := 11) rfl rfl rfl rfl ?_
    refine ar_iload_n (j := 1) (q := 12) rfl rfl rfl rfl ?_
    refine ar_st (i := .i2c) (n := 1) (st' := [.int (((x : Int32).toUInt32 % 65536).toInt32), .float 2]) (q := 13) rfl rfl rfl rfl ?_
    refine ar_invx (as := [.int (((x : Int32).toUInt32 % 65536).toInt32)]) (rest := []) (b2 := (0, 0)) (b3 := (0, 0)) (q := 16) rfl rfl rfl rfl rfl rfl rfl rfl rfl ?_
    refine am_meth_mono d _ _ _ _ _ (fun v9 m9 h9 => ?_) h
    obtain ⟨z_2, I_3, L_4, rfl, rfl, h⟩ := h9
    show am_Run am_X0 (am_meth d) 144 R 16 [some (.ref 93), some (.int x), none] [.int z_2] (am_mk I_3 L_4, 0, 0)
    refine ar_istore_n (j := 2) (ls' := [some (.ref 93), some (.int x), some (.int z_2)]) (q := 17) rfl rfl rfl rfl rfl ?_
    refine ar_iload_n (j := 2) (q := 18) rfl rfl rfl rfl ?_
    obtain ⟨hA, hB⟩ := h
    refine ar_b0 am_d_ge (t := 28) (q := 21) rfl rfl rfl (fun c_5 => ?_) (fun c_5 => ?_)
    · have h := hB c_5
      clear hA hB
      refine ar_aload_n (j := 0) (q := 29) rfl rfl rfl rfl ?_
      refine ar_ldc (v := 100000) (q := 31) rfl rfl rfl ?_
      refine ar_iload_n (j := 2) (q := 32) rfl rfl rfl rfl ?_
      refine ar_ib (i := .iadd) (z := 100000 + z_2) (q := 33) rfl rfl rfl rfl rfl ?_
      refine ar_invv (as := [.int (100000 + z_2)]) (rest := []) (b2 := (0, 0)) (b3 := (0, 0)) (q := 36) rfl rfl rfl rfl mk_93 rfl rfl rfl rfl rfl ?_
      obtain ⟨hp_6, h⟩ := h
      refine ok_Tx_addStep (by omega) hp_6 ?_
      show am_Run am_X0 (am_meth d) 144 R 36 [some (.ref 93), some (.int x), some (.int z_2)] [] (am_mk (w_as I_3 (100000 + z_2)) L_4, 0, 0)
      refine ar_aload_n (j := 0) (q := 37) rfl rfl rfl rfl ?_
      refine ar_st (i := .dup) (n := 1) (st' := [.ref 93, .ref 93]) (q := 38) rfl rfl rfl rfl ?_
      refine ar_getf (v := .int ((w_as I_3 (100000 + z_2)) 93 3)) (q := 41) rfl rfl mk_93 rfl rfl ?_
      refine ar_iconst (v := 1) (q := 42) rfl rfl rfl ?_
      refine ar_ib (i := .iadd) (z := ((w_as I_3 (100000 + z_2)) 93 3) + 1) (q := 43) rfl rfl rfl rfl rfl ?_
      obtain ⟨I_7, hI_8⟩ : ∃ z : Nat → Nat → Int32, z = va_up (w_as I_3 (100000 + z_2)) 93 (upd ((w_as I_3 (100000 + z_2)) 93) 3 (((w_as I_3 (100000 + z_2)) 93 3) + 1)) := ⟨_, rfl⟩
      have h := h I_7 hI_8
      refine ar_putf (hp2 := am_mk I_7 L_4) (q := 46) rfl rfl mk_93 rfl (by rw [hI_8]; exact mk_p93_3) rfl ?_
      exact ar_vret rfl rfl h
    · have c_5 := Classical.not_not.mp c_5
      have h := hA c_5
      clear hA hB
      refine ar_aload_n (j := 0) (q := 22) rfl rfl rfl rfl ?_
      refine ar_invv (as := []) (rest := []) (b2 := (0, 0)) (b3 := (0, 0)) (q := 25) rfl rfl rfl rfl mk_93 rfl rfl rfl rfl rfl ?_
      refine ok_Tx_fail (by omega)  ?_
      show am_Run am_X0 (am_meth d) 144 R 25 [some (.ref 93), some (.int x), some (.int z_2)] [] (am_mk (w_fl I_3) L_4, 0, 0)
      refine ar_goto (t := 46) rfl rfl ?_
      exact ar_vret rfl rfl h
  · have c_1 := Classical.not_not.mp c_1
    have h := hA c_1
    clear hA hB
    refine ar_iconst (v := (-1 : Int32)) (q := 6) rfl rfl rfl ?_
    refine ar_goto (t := 16) rfl rfl ?_
    refine ar_istore_n (j := 2) (ls' := [some (.ref 93), some (.int x), some (.int (-1 : Int32))]) (q := 17) rfl rfl rfl rfl rfl ?_
    refine ar_iload_n (j := 2) (q := 18) rfl rfl rfl rfl ?_
    refine ar_b0 am_d_ge (t := 28) (q := 21) rfl rfl rfl (fun c9 => absurd (by decide) c9) (fun _ => ?_)
    refine ar_aload_n (j := 0) (q := 22) rfl rfl rfl rfl ?_
    refine ar_invv (as := []) (rest := []) (b2 := (0, 0)) (b3 := (0, 0)) (q := 25) rfl rfl rfl rfl mk_93 rfl rfl rfl rfl rfl ?_
    refine ok_Tx_fail (by omega)  ?_
    show am_Run am_X0 (am_meth d) 144 R 25 [some (.ref 93), some (.int x), some (.int (-1 : Int32))] [] (am_mk (w_fl I) L, 0, 0)
    refine ar_goto (t := 46) rfl rfl ?_
    exact ar_vret rfl rfl h
theorem r_Text_readBracket_0 {d : Nat} (hd : 2 ≤ d) {R : am_R} {I : Nat → Nat → Int32} {L : Nat → Nat → Int64} {p : Nat} (h : am_meth d 135 [.ref 93, .int (nI p)] (am_mk I L, 0, 0) (am_rv (fun I_1 L_2 => (((I_1 93 4) = (-1 : Int32) → ((am_ix I_1 91 0 61) ∧ ((((w_nx I_1) = 60 → (∀ I_6 : Nat → Nat → Int32, I_6 = va_up I_1 93 (upd (I_1 93) 3 ((I_1 93 3) + 1)) → (am_meth d 135 [.ref 93, .int (nI p)] (am_mk I_6 L_2, 0, 0) (am_rv (fun I_8 L_9 => (am_ix I_8 93 0 61) ∧ (((((w_as I_8 (-(w_nx I_1))) 93 4) = (-1 : Int32) → ((am_ix (w_as I_8 (-(w_nx I_1))) 91 0 61) ∧ ((((w_nx (w_as I_8 (-(w_nx I_1)))) = 41 → (∀ I_14 : Nat → Nat → Int32, I_14 = va_up (w_as I_8 (-(w_nx I_1))) 93 (upd ((w_as I_8 (-(w_nx I_1))) 93) 3 (((w_as I_8 (-(w_nx I_1))) 93 3) + 1)) → (R none (am_mk I_14 L_9, 0, 0)))) ∧ (¬ (w_nx (w_as I_8 (-(w_nx I_1)))) = 41 → (R none (am_mk (w_fl (w_as I_8 (-(w_nx I_1)))) L_9, 0, 0))))))) ∧ (¬ ((w_as I_8 (-(w_nx I_1))) 93 4) = (-1 : Int32) → (R none (am_mk (w_as I_8 (-(w_nx I_1))) L_9, 0, 0)))))))))) ∧ (¬ (w_nx I_1) = 60 → ((((w_nx I_1) = 61 → (∀ I_17 : Nat → Nat → Int32, I_17 = va_up I_1 93 (upd (I_1 93) 3 ((I_1 93 3) + 1)) → (am_meth d 135 [.ref 93, .int (nI p)] (am_mk I_17 L_2, 0, 0) (am_rv (fun I_19 L_20 => (am_ix I_19 93 0 61) ∧ (((((w_as I_19 (-(w_nx I_1))) 93 4) = (-1 : Int32) → ((am_ix (w_as I_19 (-(w_nx I_1))) 91 0 61) ∧ ((((w_nx (w_as I_19 (-(w_nx I_1)))) = 41 → (∀ I_25 : Nat → Nat → Int32, I_25 = va_up (w_as I_19 (-(w_nx I_1))) 93 (upd ((w_as I_19 (-(w_nx I_1))) 93) 3 (((w_as I_19 (-(w_nx I_1))) 93 3) + 1)) → (R none (am_mk I_25 L_20, 0, 0)))) ∧ (¬ (w_nx (w_as I_19 (-(w_nx I_1)))) = 41 → (R none (am_mk (w_fl (w_as I_19 (-(w_nx I_1)))) L_20, 0, 0))))))) ∧ (¬ ((w_as I_19 (-(w_nx I_1))) 93 4) = (-1 : Int32) → (R none (am_mk (w_as I_19 (-(w_nx I_1))) L_20, 0, 0)))))))))) ∧ (¬ (w_nx I_1) = 61 → ((((w_nx I_1) = 62 → (∀ I_28 : Nat → Nat → Int32, I_28 = va_up I_1 93 (upd (I_1 93) 3 ((I_1 93 3) + 1)) → (am_meth d 135 [.ref 93, .int (nI p)] (am_mk I_28 L_2, 0, 0) (am_rv (fun I_30 L_31 => (am_ix I_30 93 0 61) ∧ (((((w_as I_30 (-(w_nx I_1))) 93 4) = (-1 : Int32) → ((am_ix (w_as I_30 (-(w_nx I_1))) 91 0 61) ∧ ((((w_nx (w_as I_30 (-(w_nx I_1)))) = 41 → (∀ I_36 : Nat → Nat → Int32, I_36 = va_up (w_as I_30 (-(w_nx I_1))) 93 (upd ((w_as I_30 (-(w_nx I_1))) 93) 3 (((w_as I_30 (-(w_nx I_1))) 93 3) + 1)) → (R none (am_mk I_36 L_31, 0, 0)))) ∧ (¬ (w_nx (w_as I_30 (-(w_nx I_1)))) = 41 → (R none (am_mk (w_fl (w_as I_30 (-(w_nx I_1)))) L_31, 0, 0))))))) ∧ (¬ ((w_as I_30 (-(w_nx I_1))) 93 4) = (-1 : Int32) → (R none (am_mk (w_as I_30 (-(w_nx I_1))) L_31, 0, 0)))))))))) ∧ (¬ (w_nx I_1) = 62 → ((am_ix I_1 91 0 61) ∧ ((((w_nx I_1) = 41 → (∀ I_40 : Nat → Nat → Int32, I_40 = va_up I_1 93 (upd (I_1 93) 3 ((I_1 93 3) + 1)) → (R none (am_mk I_40 L_2, 0, 0)))) ∧ (¬ (w_nx I_1) = 41 → (R none (am_mk (w_fl I_1) L_2, 0, 0))))))))))))))))) ∧ (¬ (I_1 93 4) = (-1 : Int32) → (R none (am_mk I_1 L_2, 0, 0))))))) : am_Run am_X0 (am_meth d) 142 R 0 [some (.ref 93), some (.int (nI p)), none] [] (am_mk I L, 0, 0) := by
  refine ar_aload_n (j := 0) (q := 1) rfl rfl rfl rfl ?_
  refine ar_iload_n (j := 1) (q := 2) rfl rfl rfl rfl ?_
  refine ar_invv (as := [.int (nI p)]) (rest := []) (b2 := (0, 0)) (b3 := (0, 0)) (q := 5) rfl rfl rfl rfl mk_93 rfl rfl rfl rfl rfl ?_
  refine am_meth_mono d _ _ _ _ _ (fun v9 m9 h9 => ?_) h
  obtain ⟨I_1, L_2, rfl, rfl, h⟩ := h9
  show am_Run am_X0 (am_meth d) 142 R 5 [some (.ref 93), some (.int (nI p)), none] [] (am_mk I_1 L_2, 0, 0)
  refine ar_aload_n (j := 0) (q := 6) rfl rfl rfl rfl ?_
  refine ar_getf (v := .int (I_1 93 4)) (q := 9) rfl rfl mk_93 rfl rfl ?_
  refine ar_iconst (v := (-1 : Int32)) (q := 10) rfl rfl rfl ?_
  obtain ⟨hA, hB⟩ := h
  refine ar_br am_c_eq (t := 14) (q := 13) rfl rfl rfl (fun c_3 => ?_) (fun c_3 => ?_)
  · have h := hA c_3
    clear hA hB
    refine ar_aload_n (j := 0) (q := 15) rfl rfl rfl rfl ?_
    refine ar_invv (as := []) (rest := []) (b2 := (0, 0)) (b3 := (0, 0)) (q := 18) rfl rfl rfl rfl mk_93 rfl rfl rfl rfl rfl ?_
    obtain ⟨hp_4, h⟩ := h
    refine ok_Tx_next (by omega) hp_4 ?_
    show am_Run am_X0 (am_meth d) 142 R 18 [some (.ref 93), some (.int (nI p)), none] [.int (w_nx I_1)] (am_mk I_1 L_2, 0, 0)
    refine ar_istore_n (j := 2) (ls' := [some (.ref 93), some (.int (nI p)), some (.int (w_nx I_1))]) (q := 19) rfl rfl rfl rfl rfl ?_
    refine ar_iload_n (j := 2) (q := 20) rfl rfl rfl rfl ?_
    refine ar_bipush (v := 60) (q := 22) rfl rfl rfl ?_
    obtain ⟨hA, hB⟩ := h
    refine ar_br am_c_eq (t := 37) (q := 25) rfl rfl rfl (fun c_5 => ?_) (fun c_5 => ?_)
    · have h := hA c_5
      clear hA hB
      refine ar_aload_n (j := 0) (q := 38) rfl rfl rfl rfl ?_
      refine ar_st (i := .dup) (n := 1) (st' := [.ref 93, .ref 93]) (q := 39) rfl rfl rfl rfl ?_
      refine ar_getf (v := .int (I_1 93 3)) (q := 42) rfl rfl mk_93 rfl rfl ?_
      refine ar_iconst (v := 1) (q := 43) rfl rfl rfl ?_
      refine ar_ib (i := .iadd) (z := (I_1 93 3) + 1) (q := 44) rfl rfl rfl rfl rfl ?_
      obtain ⟨I_6, hI_7⟩ : ∃ z : Nat → Nat → Int32, z = va_up I_1 93 (upd (I_1 93) 3 ((I_1 93 3) + 1)) := ⟨_, rfl⟩
      have h := h I_6 hI_7
      refine ar_putf (hp2 := am_mk I_6 L_2) (q := 47) rfl rfl mk_93 rfl (by rw [hI_7]; exact mk_p93_3) rfl ?_
      refine ar_aload_n (j := 0) (q := 48) rfl rfl rfl rfl ?_
      refine ar_iload_n (j := 1) (q := 49) rfl rfl rfl rfl ?_
      refine ar_invv (as := [.int (nI p)]) (rest := []) (b2 := (0, 0)) (b3 := (0, 0)) (q := 52) rfl rfl rfl rfl mk_93 rfl rfl rfl rfl rfl ?_
      refine am_meth_mono d _ _ _ _ _ (fun v9 m9 h9 => ?_) h
      obtain ⟨I_8, L_9, rfl, rfl, h⟩ := h9
      show am_Run am_X0 (am_meth d) 142 R 52 [some (.ref 93), some (.int (nI p)), some (.int (w_nx I_1))] [] (am_mk I_8 L_9, 0, 0)
      refine ar_aload_n (j := 0) (q := 53) rfl rfl rfl rfl ?_
      refine ar_iload_n (j := 2) (q := 54) rfl rfl rfl rfl ?_
      refine ar_st (i := .ineg) (n := 1) (st' := [.int (-(w_nx I_1)), .ref 93]) (q := 55) rfl rfl rfl rfl ?_
      refine ar_invv (as := [.int (-(w_nx I_1))]) (rest := []) (b2 := (0, 0)) (b3 := (0, 0)) (q := 58) rfl rfl rfl rfl mk_93 rfl rfl rfl rfl rfl ?_
      obtain ⟨hp_10, h⟩ := h
      refine ok_Tx_addStep (by omega) hp_10 ?_
      show am_Run am_X0 (am_meth d) 142 R 58 [some (.ref 93), some (.int (nI p)), some (.int (w_nx I_1))] [] (am_mk (w_as I_8 (-(w_nx I_1))) L_9, 0, 0)
      refine ar_aload_n (j := 0) (q := 59) rfl rfl rfl rfl ?_
      refine ar_getf (v := .int ((w_as I_8 (-(w_nx I_1))) 93 4)) (q := 62) rfl rfl mk_93 rfl rfl ?_
      refine ar_iconst (v := (-1 : Int32)) (q := 63) rfl rfl rfl ?_
      obtain ⟨hA, hB⟩ := h
      refine ar_br am_c_eq (t := 67) (q := 66) rfl rfl rfl (fun c_11 => ?_) (fun c_11 => ?_)
      · have h := hA c_11
        clear hA hB
        refine ar_aload_n (j := 0) (q := 68) rfl rfl rfl rfl ?_
        refine ar_invv (as := []) (rest := []) (b2 := (0, 0)) (b3 := (0, 0)) (q := 71) rfl rfl rfl rfl mk_93 rfl rfl rfl rfl rfl ?_
        obtain ⟨hp_12, h⟩ := h
        refine ok_Tx_next (by omega) hp_12 ?_
        show am_Run am_X0 (am_meth d) 142 R 71 [some (.ref 93), some (.int (nI p)), some (.int (w_nx I_1))] [.int (w_nx (w_as I_8 (-(w_nx I_1))))] (am_mk (w_as I_8 (-(w_nx I_1))) L_9, 0, 0)
        refine ar_bipush (v := 41) (q := 73) rfl rfl rfl ?_
        obtain ⟨hA, hB⟩ := h
        refine ar_br am_c_ne (t := 89) (q := 76) rfl rfl rfl (fun c_13 => ?_) (fun c_13 => ?_)
        · have h := hB c_13
          clear hA hB
          refine ar_aload_n (j := 0) (q := 90) rfl rfl rfl rfl ?_
          refine ar_invv (as := []) (rest := []) (b2 := (0, 0)) (b3 := (0, 0)) (q := 93) rfl rfl rfl rfl mk_93 rfl rfl rfl rfl rfl ?_
          refine ok_Tx_fail (by omega)  ?_
          show am_Run am_X0 (am_meth d) 142 R 93 [some (.ref 93), some (.int (nI p)), some (.int (w_nx I_1))] [] (am_mk (w_fl (w_as I_8 (-(w_nx I_1)))) L_9, 0, 0)
          exact ar_vret rfl rfl h
        · have c_13 := Classical.not_not.mp c_13
          have h := hA c_13
          clear hA hB
          refine ar_aload_n (j := 0) (q := 77) rfl rfl rfl rfl ?_
          refine ar_st (i := .dup) (n := 1) (st' := [.ref 93, .ref 93]) (q := 78) rfl rfl rfl rfl ?_
          refine ar_getf (v := .int ((w_as I_8 (-(w_nx I_1))) 93 3)) (q := 81) rfl rfl mk_93 rfl rfl ?_
          refine ar_iconst (v := 1) (q := 82) rfl rfl rfl ?_
          refine ar_ib (i := .iadd) (z := ((w_as I_8 (-(w_nx I_1))) 93 3) + 1) (q := 83) rfl rfl rfl rfl rfl ?_
          obtain ⟨I_14, hI_15⟩ : ∃ z : Nat → Nat → Int32, z = va_up (w_as I_8 (-(w_nx I_1))) 93 (upd ((w_as I_8 (-(w_nx I_1))) 93) 3 (((w_as I_8 (-(w_nx I_1))) 93 3) + 1)) := ⟨_, rfl⟩
          have h := h I_14 hI_15
          refine ar_putf (hp2 := am_mk I_14 L_9) (q := 86) rfl rfl mk_93 rfl (by rw [hI_15]; exact mk_p93_3) rfl ?_
          refine ar_goto (t := 93) rfl rfl ?_
          exact ar_vret rfl rfl h
      · have h := hB c_11
        clear hA hB
        exact ar_vret rfl rfl h
    · have h := hB c_5
      clear hA hB
      refine ar_iload_n (j := 2) (q := 26) rfl rfl rfl rfl ?_
      refine ar_bipush (v := 61) (q := 28) rfl rfl rfl ?_
      obtain ⟨hA, hB⟩ := h
      refine ar_br am_c_eq (t := 37) (q := 31) rfl rfl rfl (fun c_16 => ?_) (fun c_16 => ?_)
      · have h := hA c_16
        clear hA hB
        refine ar_aload_n (j := 0) (q := 38) rfl rfl rfl rfl ?_
        refine ar_st (i := .dup) (n := 1) (st' := [.ref 93, .ref 93]) (q := 39) rfl rfl rfl rfl ?_
        refine ar_getf (v := .int (I_1 93 3)) (q := 42) rfl rfl mk_93 rfl rfl ?_
        refine ar_iconst (v := 1) (q := 43) rfl rfl rfl ?_
        refine ar_ib (i := .iadd) (z := (I_1 93 3) + 1) (q := 44) rfl rfl rfl rfl rfl ?_
        obtain ⟨I_17, hI_18⟩ : ∃ z : Nat → Nat → Int32, z = va_up I_1 93 (upd (I_1 93) 3 ((I_1 93 3) + 1)) := ⟨_, rfl⟩
        have h := h I_17 hI_18
        refine ar_putf (hp2 := am_mk I_17 L_2) (q := 47) rfl rfl mk_93 rfl (by rw [hI_18]; exact mk_p93_3) rfl ?_
        refine ar_aload_n (j := 0) (q := 48) rfl rfl rfl rfl ?_
        refine ar_iload_n (j := 1) (q := 49) rfl rfl rfl rfl ?_
        refine ar_invv (as := [.int (nI p)]) (rest := []) (b2 := (0, 0)) (b3 := (0, 0)) (q := 52) rfl rfl rfl rfl mk_93 rfl rfl rfl rfl rfl ?_
        refine am_meth_mono d _ _ _ _ _ (fun v9 m9 h9 => ?_) h
        obtain ⟨I_19, L_20, rfl, rfl, h⟩ := h9
        show am_Run am_X0 (am_meth d) 142 R 52 [some (.ref 93), some (.int (nI p)), some (.int (w_nx I_1))] [] (am_mk I_19 L_20, 0, 0)
        refine ar_aload_n (j := 0) (q := 53) rfl rfl rfl rfl ?_
        refine ar_iload_n (j := 2) (q := 54) rfl rfl rfl rfl ?_
        refine ar_st (i := .ineg) (n := 1) (st' := [.int (-(w_nx I_1)), .ref 93]) (q := 55) rfl rfl rfl rfl ?_
        refine ar_invv (as := [.int (-(w_nx I_1))]) (rest := []) (b2 := (0, 0)) (b3 := (0, 0)) (q := 58) rfl rfl rfl rfl mk_93 rfl rfl rfl rfl rfl ?_
        obtain ⟨hp_21, h⟩ := h
        refine ok_Tx_addStep (by omega) hp_21 ?_
        show am_Run am_X0 (am_meth d) 142 R 58 [some (.ref 93), some (.int (nI p)), some (.int (w_nx I_1))] [] (am_mk (w_as I_19 (-(w_nx I_1))) L_20, 0, 0)
        refine ar_aload_n (j := 0) (q := 59) rfl rfl rfl rfl ?_
        refine ar_getf (v := .int ((w_as I_19 (-(w_nx I_1))) 93 4)) (q := 62) rfl rfl mk_93 rfl rfl ?_
        refine ar_iconst (v := (-1 : Int32)) (q := 63) rfl rfl rfl ?_
        obtain ⟨hA, hB⟩ := h
        refine ar_br am_c_eq (t := 67) (q := 66) rfl rfl rfl (fun c_22 => ?_) (fun c_22 => ?_)
        · have h := hA c_22
          clear hA hB
          refine ar_aload_n (j := 0) (q := 68) rfl rfl rfl rfl ?_
          refine ar_invv (as := []) (rest := []) (b2 := (0, 0)) (b3 := (0, 0)) (q := 71) rfl rfl rfl rfl mk_93 rfl rfl rfl rfl rfl ?_
          obtain ⟨hp_23, h⟩ := h
          refine ok_Tx_next (by omega) hp_23 ?_
          show am_Run am_X0 (am_meth d) 142 R 71 [some (.ref 93), some (.int (nI p)), some (.int (w_nx I_1))] [.int (w_nx (w_as I_19 (-(w_nx I_1))))] (am_mk (w_as I_19 (-(w_nx I_1))) L_20, 0, 0)
          refine ar_bipush (v := 41) (q := 73) rfl rfl rfl ?_
          obtain ⟨hA, hB⟩ := h
          refine ar_br am_c_ne (t := 89) (q := 76) rfl rfl rfl (fun c_24 => ?_) (fun c_24 => ?_)
          · have h := hB c_24
            clear hA hB
            refine ar_aload_n (j := 0) (q := 90) rfl rfl rfl rfl ?_
            refine ar_invv (as := []) (rest := []) (b2 := (0, 0)) (b3 := (0, 0)) (q := 93) rfl rfl rfl rfl mk_93 rfl rfl rfl rfl rfl ?_
            refine ok_Tx_fail (by omega)  ?_
            show am_Run am_X0 (am_meth d) 142 R 93 [some (.ref 93), some (.int (nI p)), some (.int (w_nx I_1))] [] (am_mk (w_fl (w_as I_19 (-(w_nx I_1)))) L_20, 0, 0)
            exact ar_vret rfl rfl h
          · have c_24 := Classical.not_not.mp c_24
            have h := hA c_24
            clear hA hB
            refine ar_aload_n (j := 0) (q := 77) rfl rfl rfl rfl ?_
            refine ar_st (i := .dup) (n := 1) (st' := [.ref 93, .ref 93]) (q := 78) rfl rfl rfl rfl ?_
            refine ar_getf (v := .int ((w_as I_19 (-(w_nx I_1))) 93 3)) (q := 81) rfl rfl mk_93 rfl rfl ?_
            refine ar_iconst (v := 1) (q := 82) rfl rfl rfl ?_
            refine ar_ib (i := .iadd) (z := ((w_as I_19 (-(w_nx I_1))) 93 3) + 1) (q := 83) rfl rfl rfl rfl rfl ?_
            obtain ⟨I_25, hI_26⟩ : ∃ z : Nat → Nat → Int32, z = va_up (w_as I_19 (-(w_nx I_1))) 93 (upd ((w_as I_19 (-(w_nx I_1))) 93) 3 (((w_as I_19 (-(w_nx I_1))) 93 3) + 1)) := ⟨_, rfl⟩
            have h := h I_25 hI_26
            refine ar_putf (hp2 := am_mk I_25 L_20) (q := 86) rfl rfl mk_93 rfl (by rw [hI_26]; exact mk_p93_3) rfl ?_
            refine ar_goto (t := 93) rfl rfl ?_
            exact ar_vret rfl rfl h
        · have h := hB c_22
          clear hA hB
          exact ar_vret rfl rfl h
      · have h := hB c_16
        clear hA hB
        refine ar_iload_n (j := 2) (q := 32) rfl rfl rfl rfl ?_
        refine ar_bipush (v := 62) (q := 34) rfl rfl rfl ?_
        obtain ⟨hA, hB⟩ := h
        refine ar_br am_c_ne (t := 58) (q := 37) rfl rfl rfl (fun c_27 => ?_) (fun c_27 => ?_)
        · have h := hB c_27
          clear hA hB
          refine ar_aload_n (j := 0) (q := 59) rfl rfl rfl rfl ?_
          refine ar_getf (v := .int (I_1 93 4)) (q := 62) rfl rfl mk_93 rfl rfl ?_
          refine ar_iconst (v := (-1 : Int32)) (q := 63) rfl rfl rfl ?_
          refine ar_br am_c_eq (t := 67) (q := 66) rfl rfl rfl (fun _ => ?_) (fun c9 => absurd c_3 c9)
          refine ar_aload_n (j := 0) (q := 68) rfl rfl rfl rfl ?_
          refine ar_invv (as := []) (rest := []) (b2 := (0, 0)) (b3 := (0, 0)) (q := 71) rfl rfl rfl rfl mk_93 rfl rfl rfl rfl rfl ?_
          obtain ⟨hp_38, h⟩ := h
          refine ok_Tx_next (by omega) hp_38 ?_
          show am_Run am_X0 (am_meth d) 142 R 71 [some (.ref 93), some (.int (nI p)), some (.int (w_nx I_1))] [.int (w_nx I_1)] (am_mk I_1 L_2, 0, 0)
          refine ar_bipush (v := 41) (q := 73) rfl rfl rfl ?_
          obtain ⟨hA, hB⟩ := h
          refine ar_br am_c_ne (t := 89) (q := 76) rfl rfl rfl (fun c_39 => ?_) (fun c_39 => ?_)
          · have h := hB c_39
            clear hA hB
            refine ar_aload_n (j := 0) (q := 90) rfl rfl rfl rfl ?_
            refine ar_invv (as := []) (rest := []) (b2 := (0, 0)) (b3 := (0, 0)) (q := 93) rfl rfl rfl rfl mk_93 rfl rfl rfl rfl rfl ?_
            refine ok_Tx_fail (by omega)  ?_
            show am_Run am_X0 (am_meth d) 142 R 93 [some (.ref 93), some (.int (nI p)), some (.int (w_nx I_1))] [] (am_mk (w_fl I_1) L_2, 0, 0)
            exact ar_vret rfl rfl h
          · have c_39 := Classical.not_not.mp c_39
            have h := hA c_39
            clear hA hB
            refine ar_aload_n (j := 0) (q := 77) rfl rfl rfl rfl ?_
            refine ar_st (i := .dup) (n := 1) (st' := [.ref 93, .ref 93]) (q := 78) rfl rfl rfl rfl ?_
            refine ar_getf (v := .int (I_1 93 3)) (q := 81) rfl rfl mk_93 rfl rfl ?_
            refine ar_iconst (v := 1) (q := 82) rfl rfl rfl ?_
            refine ar_ib (i := .iadd) (z := (I_1 93 3) + 1) (q := 83) rfl rfl rfl rfl rfl ?_
            obtain ⟨I_40, hI_41⟩ : ∃ z : Nat → Nat → Int32, z = va_up I_1 93 (upd (I_1 93) 3 ((I_1 93 3) + 1)) := ⟨_, rfl⟩
            have h := h I_40 hI_41
            refine ar_putf (hp2 := am_mk I_40 L_2) (q := 86) rfl rfl mk_93 rfl (by rw [hI_41]; exact mk_p93_3) rfl ?_
            refine ar_goto (t := 93) rfl rfl ?_
            exact ar_vret rfl rfl h
        · have c_27 := Classical.not_not.mp c_27
          have h := hA c_27
          clear hA hB
          refine ar_aload_n (j := 0) (q := 38) rfl rfl rfl rfl ?_
          refine ar_st (i := .dup) (n := 1) (st' := [.ref 93, .ref 93]) (q := 39) rfl rfl rfl rfl ?_
          refine ar_getf (v := .int (I_1 93 3)) (q := 42) rfl rfl mk_93 rfl rfl ?_
          refine ar_iconst (v := 1) (q := 43) rfl rfl rfl ?_
          refine ar_ib (i := .iadd) (z := (I_1 93 3) + 1) (q := 44) rfl rfl rfl rfl rfl ?_
          obtain ⟨I_28, hI_29⟩ : ∃ z : Nat → Nat → Int32, z = va_up I_1 93 (upd (I_1 93) 3 ((I_1 93 3) + 1)) := ⟨_, rfl⟩
          have h := h I_28 hI_29
          refine ar_putf (hp2 := am_mk I_28 L_2) (q := 47) rfl rfl mk_93 rfl (by rw [hI_29]; exact mk_p93_3) rfl ?_
          refine ar_aload_n (j := 0) (q := 48) rfl rfl rfl rfl ?_
          refine ar_iload_n (j := 1) (q := 49) rfl rfl rfl rfl ?_
          refine ar_invv (as := [.int (nI p)]) (rest := []) (b2 := (0, 0)) (b3 := (0, 0)) (q := 52) rfl rfl rfl rfl mk_93 rfl rfl rfl rfl rfl ?_
          refine am_meth_mono d _ _ _ _ _ (fun v9 m9 h9 => ?_) h
          obtain ⟨I_30, L_31, rfl, rfl, h⟩ := h9
          show am_Run am_X0 (am_meth d) 142 R 52 [some (.ref 93), some (.int (nI p)), some (.int (w_nx I_1))] [] (am_mk I_30 L_31, 0, 0)
          refine ar_aload_n (j := 0) (q := 53) rfl rfl rfl rfl ?_
          refine ar_iload_n (j := 2) (q := 54) rfl rfl rfl rfl ?_
          refine ar_st (i := .ineg) (n := 1) (st' := [.int (-(w_nx I_1)), .ref 93]) (q := 55) rfl rfl rfl rfl ?_
          refine ar_invv (as := [.int (-(w_nx I_1))]) (rest := []) (b2 := (0, 0)) (b3 := (0, 0)) (q := 58) rfl rfl rfl rfl mk_93 rfl rfl rfl rfl rfl ?_
          obtain ⟨hp_32, h⟩ := h
          refine ok_Tx_addStep (by omega) hp_32 ?_
          show am_Run am_X0 (am_meth d) 142 R 58 [some (.ref 93), some (.int (nI p)), some (.int (w_nx I_1))] [] (am_mk (w_as I_30 (-(w_nx I_1))) L_31, 0, 0)
          refine ar_aload_n (j := 0) (q := 59) rfl rfl rfl rfl ?_
          refine ar_getf (v := .int ((w_as I_30 (-(w_nx I_1))) 93 4)) (q := 62) rfl rfl mk_93 rfl rfl ?_
          refine ar_iconst (v := (-1 : Int32)) (q := 63) rfl rfl rfl ?_
          obtain ⟨hA, hB⟩ := h
          refine ar_br am_c_eq (t := 67) (q := 66) rfl rfl rfl (fun c_33 => ?_) (fun c_33 => ?_)
          · have h := hA c_33
            clear hA hB
            refine ar_aload_n (j := 0) (q := 68) rfl rfl rfl rfl ?_
            refine ar_invv (as := []) (rest := []) (b2 := (0, 0)) (b3 := (0, 0)) (q := 71) rfl rfl rfl rfl mk_93 rfl rfl rfl rfl rfl ?_
            obtain ⟨hp_34, h⟩ := h
            refine ok_Tx_next (by omega) hp_34 ?_
            show am_Run am_X0 (am_meth d) 142 R 71 [some (.ref 93), some (.int (nI p)), some (.int (w_nx I_1))] [.int (w_nx (w_as I_30 (-(w_nx I_1))))] (am_mk (w_as I_30 (-(w_nx I_1))) L_31, 0, 0)
            refine ar_bipush (v := 41) (q := 73) rfl rfl rfl ?_
            obtain ⟨hA, hB⟩ := h
            refine ar_br am_c_ne (t := 89) (q := 76) rfl rfl rfl (fun c_35 => ?_) (fun c_35 => ?_)
            · have h := hB c_35
              clear hA hB
              refine ar_aload_n (j := 0) (q := 90) rfl rfl rfl rfl ?_
              refine ar_invv (as := []) (rest := []) (b2 := (0, 0)) (b3 := (0, 0)) (q := 93) rfl rfl rfl rfl mk_93 rfl rfl rfl rfl rfl ?_
              refine ok_Tx_fail (by omega)  ?_
              show am_Run am_X0 (am_meth d) 142 R 93 [some (.ref 93), some (.int (nI p)), some (.int (w_nx I_1))] [] (am_mk (w_fl (w_as I_30 (-(w_nx I_1)))) L_31, 0, 0)
              exact ar_vret rfl rfl h
            · have c_35 := Classical.not_not.mp c_35
              have h := hA c_35
              clear hA hB
              refine ar_aload_n (j := 0) (q := 77) rfl rfl rfl rfl ?_
              refine ar_st (i := .dup) (n := 1) (st' := [.ref 93, .ref 93]) (q := 78) rfl rfl rfl rfl ?_
              refine ar_getf (v := .int ((w_as I_30 (-(w_nx I_1))) 93 3)) (q := 81) rfl rfl mk_93 rfl rfl ?_
              refine ar_iconst (v := 1) (q := 82) rfl rfl rfl ?_
              refine ar_ib (i := .iadd) (z := ((w_as I_30 (-(w_nx I_1))) 93 3) + 1) (q := 83) rfl rfl rfl rfl rfl ?_
              obtain ⟨I_36, hI_37⟩ : ∃ z : Nat → Nat → Int32, z = va_up (w_as I_30 (-(w_nx I_1))) 93 (upd ((w_as I_30 (-(w_nx I_1))) 93) 3 (((w_as I_30 (-(w_nx I_1))) 93 3) + 1)) := ⟨_, rfl⟩
              have h := h I_36 hI_37
              refine ar_putf (hp2 := am_mk I_36 L_31) (q := 86) rfl rfl mk_93 rfl (by rw [hI_37]; exact mk_p93_3) rfl ?_
              refine ar_goto (t := 93) rfl rfl ?_
              exact ar_vret rfl rfl h
          · have h := hB c_33
            clear hA hB
            exact ar_vret rfl rfl h
  · have h := hB c_3
    clear hA hB
    exact ar_vret rfl rfl h
theorem r_Terms_add_0 {d : Nat} {R : am_R} {I : Nat → Nat → Int32} {L : Nat → Nat → Int64} {h9 : Int32} {w : Int32} (h : ∃ j_1 : Nat, j_1 < 30 ∧ I 85 0 = nI j_1 ∧ (∀ I_4 : Nat → Nat → Int32, I_4 = va_up I 86 (upd (I 86) j_1 h9) → (∃ j_6 : Nat, j_6 < 30 ∧ I_4 85 0 = nI j_6 ∧ (∀ I_9 : Nat → Nat → Int32, I_9 = va_up I_4 87 (upd (I_4 87) j_6 w) → (∃ j_11 : Nat, j_11 < 30 ∧ I_9 85 0 = nI j_11 ∧ (∀ I_14 : Nat → Nat → Int32, I_14 = va_up I_9 88 (upd (I_9 88) j_11 (I_9 93 0)) → (am_meth d 259 [.ref 94, .int 0, .ref 89, .int ((I_14 85 0) * 60), .int (I_14 93 0)] (am_mk I_14 L, 0, 0) (am_rv (fun I_16 L_17 => ∀ I_18 : Nat → Nat → Int32, I_18 = va_up I_16 85 (upd (I_16 85) 0 ((I_16 85 0) + 1)) → (R (some (.int (I_18 85 0))) (am_mk I_18 L_17, 0, 0))))))))))) : am_Run am_X0 (am_meth d) 132 R 0 [some (.ref 85), some (.int h9), some (.int w), some (.ref 93)] [] (am_mk I L, 0, 0) := by
  refine ar_aload_n (j := 0) (q := 1) rfl rfl rfl rfl ?_
  refine ar_getf (v := .ref 86) (q := 4) rfl rfl mk_85 rfl rfl ?_
  refine ar_aload_n (j := 0) (q := 5) rfl rfl rfl rfl ?_
  refine ar_getf (v := .int (I 85 0)) (q := 8) rfl rfl mk_85 rfl rfl ?_
  refine ar_iload_n (j := 1) (q := 9) rfl rfl rfl rfl ?_
  obtain ⟨j_1, hx_2, hi_3, h⟩ := h
  obtain ⟨I_4, hI_5⟩ : ∃ z : Nat → Nat → Int32, z = va_up I 86 (upd (I 86) j_1 h9) := ⟨_, rfl⟩
  have h := h I_4 hI_5
  refine ar_iast (hp2 := am_mk I_4 L) (q := 10) rfl mk_86 (am_inE hi_3 hx_2 (by decide)) (by rw [am_clT hi_3 hx_2 (by decide), hI_5]; exact mk_s86) rfl ?_
  refine ar_aload_n (j := 0) (q := 11) rfl rfl rfl rfl ?_
  refine ar_getf (v := .ref 87) (q := 14) rfl rfl mk_85 rfl rfl ?_
  refine ar_aload_n (j := 0) (q := 15) rfl rfl rfl rfl ?_
  refine ar_getf (v := .int (I_4 85 0)) (q := 18) rfl rfl mk_85 rfl rfl ?_
  refine ar_iload_n (j := 2) (q := 19) rfl rfl rfl rfl ?_
  obtain ⟨j_6, hx_7, hi_8, h⟩ := h
  obtain ⟨I_9, hI_10⟩ : ∃ z : Nat → Nat → Int32, z = va_up I_4 87 (upd (I_4 87) j_6 w) := ⟨_, rfl⟩
  have h := h I_9 hI_10
  refine ar_iast (hp2 := am_mk I_9 L) (q := 20) rfl mk_87 (am_inE hi_8 hx_7 (by decide)) (by rw [am_clT hi_8 hx_7 (by decide), hI_10]; exact mk_s87) rfl ?_
  refine ar_aload_n (j := 0) (q := 21) rfl rfl rfl rfl ?_
  refine ar_getf (v := .ref 88) (q := 24) rfl rfl mk_85 rfl rfl ?_
  refine ar_aload_n (j := 0) (q := 25) rfl rfl rfl rfl ?_
  refine ar_getf (v := .int (I_9 85 0)) (q := 28) rfl rfl mk_85 rfl rfl ?_
  refine ar_aload_n (j := 3) (q := 29) rfl rfl rfl rfl ?_
  refine ar_getf (v := .int (I_9 93 0)) (q := 32) rfl rfl mk_93 rfl rfl ?_
  obtain ⟨j_11, hx_12, hi_13, h⟩ := h
  obtain ⟨I_14, hI_15⟩ : ∃ z : Nat → Nat → Int32, z = va_up I_9 88 (upd (I_9 88) j_11 (I_9 93 0)) := ⟨_, rfl⟩
  have h := h I_14 hI_15
  refine ar_iast (hp2 := am_mk I_14 L) (q := 33) rfl mk_88 (am_inE hi_13 hx_12 (by decide)) (by rw [am_clT hi_13 hx_12 (by decide), hI_15]; exact mk_s88) rfl ?_
  refine ar_aload_n (j := 3) (q := 34) rfl rfl rfl rfl ?_
  refine ar_getf (v := .ref 94) (q := 37) rfl rfl mk_93 rfl rfl ?_
  refine ar_iconst (v := 0) (q := 38) rfl rfl rfl ?_
  refine ar_aload_n (j := 0) (q := 39) rfl rfl rfl rfl ?_
  refine ar_getf (v := .ref 89) (q := 42) rfl rfl mk_85 rfl rfl ?_
  refine ar_aload_n (j := 0) (q := 43) rfl rfl rfl rfl ?_
  refine ar_getf (v := .int (I_14 85 0)) (q := 46) rfl rfl mk_85 rfl rfl ?_
  refine ar_bipush (v := 60) (q := 48) rfl rfl rfl ?_
  refine ar_ib (i := .imul) (z := (I_14 85 0) * 60) (q := 49) rfl rfl rfl rfl rfl ?_
  refine ar_aload_n (j := 3) (q := 50) rfl rfl rfl rfl ?_
  refine ar_getf (v := .int (I_14 93 0)) (q := 53) rfl rfl mk_93 rfl rfl ?_
  refine ar_invs (as := [.ref 94, .int 0, .ref 89, .int ((I_14 85 0) * 60), .int (I_14 93 0)]) (rest := []) (b2 := (0, 0)) (b3 := (0, 0)) (q := 56) rfl rfl rfl rfl rfl rfl rfl rfl rfl ?_
  refine am_meth_mono d _ _ _ _ _ (fun v9 m9 h9 => ?_) h
  obtain ⟨I_16, L_17, rfl, rfl, h⟩ := h9
  show am_Run am_X0 (am_meth d) 132 R 56 [some (.ref 85), some (.int h9), some (.int w), some (.ref 93)] [] (am_mk I_16 L_17, 0, 0)
  refine ar_aload_n (j := 0) (q := 57) rfl rfl rfl rfl ?_
  refine ar_st (i := .dup) (n := 1) (st' := [.ref 85, .ref 85]) (q := 58) rfl rfl rfl rfl ?_
  refine ar_getf (v := .int (I_16 85 0)) (q := 61) rfl rfl mk_85 rfl rfl ?_
  refine ar_iconst (v := 1) (q := 62) rfl rfl rfl ?_
  refine ar_ib (i := .iadd) (z := (I_16 85 0) + 1) (q := 63) rfl rfl rfl rfl rfl ?_
  obtain ⟨I_18, hI_19⟩ : ∃ z : Nat → Nat → Int32, z = va_up I_16 85 (upd (I_16 85) 0 ((I_16 85 0) + 1)) := ⟨_, rfl⟩
  have h := h I_18 hI_19
  refine ar_putf (hp2 := am_mk I_18 L_17) (q := 66) rfl rfl mk_85 rfl (by rw [hI_19]; exact mk_p85_0) rfl ?_
  refine ar_aload_n (j := 0) (q := 67) rfl rfl rfl rfl ?_
  refine ar_getf (v := .int (I_18 85 0)) (q := 70) rfl rfl mk_85 rfl rfl ?_
  exact ar_iret rfl rfl h
theorem r_H_term_0 {d : Nat} (hd : 1 ≤ d) {R : am_R} {I : Nat → Nat → Int32} {L : Nat → Nat → Int64} {h9 : Int32} {w : Int32} (h : ((h9 = (-1 : Int32) → (((w < (I 66 0) → (R (some (.int (-4 : Int32))) (am_mk (am_rf I 4) L, 0, 0))) ∧ ((¬ w < (I 66 0) ∧ 1500 < w) → (R (some (.int (-6 : Int32))) (am_mk (am_rf I 6) L, 0, 0))) ∧ ((¬ w < (I 66 0) ∧ ¬ 1500 < w) → ((((I 85 0) < 30 → (am_meth d 134 [.ref 93] (am_mk I L, 0, 0) (am_ri (fun z_4 I_5 L_6 => ((z_4 = (-1 : Int32) → (am_meth d 132 [.ref 85, .int h9, .int w, .ref 93] (am_mk (va_up I_5 91 (upd (I_5 91) 0 0)) L_6, 0, 0) (am_ri (fun z_8 I_9 L_10 => R (some (.int z_8)) (am_mk I_9 L_10, 0, 0))))) ∧ (¬ z_4 = (-1 : Int32) → (R (some (.int ((-20 : Int32) - z_4))) (am_mk (va_up I_5 91 (upd (I_5 91) 0 0)) L_6, 0, 0)))))))) ∧ (¬ (I 85 0) < 30 → (R (some (.int (-6 : Int32))) (am_mk (am_rf I 6) L, 0, 0))))))))) ∧ (¬ h9 = (-1 : Int32) → (((0 ≤ h9 ∧ h9 < I 42 0 → (((w < (I 66 0) → (R (some (.int (-4 : Int32))) (am_mk (am_rf I 4) L, 0, 0))) ∧ ((¬ w < (I 66 0) ∧ 1500 < w) → (R (some (.int (-6 : Int32))) (am_mk (am_rf I 6) L, 0, 0))) ∧ ((¬ w < (I 66 0) ∧ ¬ 1500 < w) → ((((I 85 0) < 30 → (am_meth d 134 [.ref 93] (am_mk I L, 0, 0) (am_ri (fun z_14 I_15 L_16 => ((z_14 = (-1 : Int32) → (am_meth d 132 [.ref 85, .int h9, .int w, .ref 93] (am_mk (va_up I_15 91 (upd (I_15 91) 0 0)) L_16, 0, 0) (am_ri (fun z_18 I_19 L_20 => R (some (.int z_18)) (am_mk I_19 L_20, 0, 0))))) ∧ (¬ z_14 = (-1 : Int32) → (R (some (.int ((-20 : Int32) - z_14))) (am_mk (va_up I_15 91 (upd (I_15 91) 0 0)) L_16, 0, 0)))))))) ∧ (¬ (I 85 0) < 30 → (R (some (.int (-6 : Int32))) (am_mk (am_rf I 6) L, 0, 0))))))))) ∧ (¬ (0 ≤ h9 ∧ h9 < I 42 0) → (R (some (.int (-1 : Int32))) (am_mk (am_rf I 1) L, 0, 0)))))))) : am_Run am_X0 (am_meth d) 16 R 0 [some (.ref 0), some (.int h9), some (.int w), none, none] [] (am_mk I L, 0, 0) := by
  refine ar_iload_n (j := 1) (q := 1) rfl rfl rfl rfl ?_
  refine ar_iconst (v := (-1 : Int32)) (q := 2) rfl rfl rfl ?_
  obtain ⟨hA, hB⟩ := h
  refine ar_br am_c_eq (t := 22) (q := 5) rfl rfl rfl (fun c_1 => ?_) (fun c_1 => ?_)
  · have h := hA c_1
    clear hA hB
    refine ar_iload_n (j := 2) (q := 23) rfl rfl rfl rfl ?_
    refine ar_aload_n (j := 0) (q := 24) rfl rfl rfl rfl ?_
    refine ar_getf (v := .ref 66) (q := 27) rfl rfl mk_0 rfl rfl ?_
    refine ar_getf (v := .int (I 66 0)) (q := 30) rfl rfl mk_66 rfl rfl ?_
    refine ar_sipush (v := 1500) (q := 33) rfl rfl rfl ?_
    refine ar_invs (as := [.int w, .int (I 66 0), .int 1500]) (rest := []) (b2 := (0, 0)) (b3 := (0, 0)) (q := 36) rfl rfl rfl rfl rfl rfl rfl rfl rfl ?_
    obtain ⟨hC0, hC1, hC2⟩ := h
    refine ok_bound (by omega)  (fun c_2 => ?_) (fun c_2 => ?_) (fun c_2 => ?_)
    · have h := hC0 c_2
      clear hC0 hC1 hC2
      show am_Run am_X0 (am_meth d) 16 R 36 [some (.ref 0), some (.int h9), some (.int w), none, none] [.int (-4 : Int32)] (am_mk I L, 0, 0)
      refine ar_istore_n (j := 3) (ls' := [some (.ref 0), some (.int h9), some (.int w), some (.int (-4 : Int32)), none]) (q := 37) rfl rfl rfl rfl rfl ?_
      refine ar_iload_n (j := 3) (q := 38) rfl rfl rfl rfl ?_
      refine ar_b0 am_c_eq (t := 47) (q := 41) rfl rfl rfl (fun c9 => absurd c9 (by decide)) (fun _ => ?_)
      refine ar_aload_n (j := 0) (q := 42) rfl rfl rfl rfl ?_
      refine ar_iload_n (j := 3) (q := 43) rfl rfl rfl rfl ?_
      refine ar_invv (as := [.int (-4 : Int32)]) (rest := []) (b2 := (0, 0)) (b3 := (0, 0)) (q := 46) rfl rfl rfl rfl mk_0 rfl rfl rfl rfl rfl ?_
      refine ok_refuse (j := 4) (by omega) (by decide) (by decide) ?_
      show am_Run am_X0 (am_meth d) 16 R 46 [some (.ref 0), some (.int h9), some (.int w), some (.int (-4 : Int32)), none] [.int (-4 : Int32)] (am_mk (am_rf I 4) L, 0, 0)
      exact ar_iret rfl rfl h
    · have h := hC1 c_2
      clear hC0 hC1 hC2
      show am_Run am_X0 (am_meth d) 16 R 36 [some (.ref 0), some (.int h9), some (.int w), none, none] [.int (-6 : Int32)] (am_mk I L, 0, 0)
      refine ar_istore_n (j := 3) (ls' := [some (.ref 0), some (.int h9), some (.int w), some (.int (-6 : Int32)), none]) (q := 37) rfl rfl rfl rfl rfl ?_
      refine ar_iload_n (j := 3) (q := 38) rfl rfl rfl rfl ?_
      refine ar_b0 am_c_eq (t := 47) (q := 41) rfl rfl rfl (fun c9 => absurd c9 (by decide)) (fun _ => ?_)
      refine ar_aload_n (j := 0) (q := 42) rfl rfl rfl rfl ?_
      refine ar_iload_n (j := 3) (q := 43) rfl rfl rfl rfl ?_
      refine ar_invv (as := [.int (-6 : Int32)]) (rest := []) (b2 := (0, 0)) (b3 := (0, 0)) (q := 46) rfl rfl rfl rfl mk_0 rfl rfl rfl rfl rfl ?_
      refine ok_refuse (j := 6) (by omega) (by decide) (by decide) ?_
      show am_Run am_X0 (am_meth d) 16 R 46 [some (.ref 0), some (.int h9), some (.int w), some (.int (-6 : Int32)), none] [.int (-6 : Int32)] (am_mk (am_rf I 6) L, 0, 0)
      exact ar_iret rfl rfl h
    · have h := hC2 c_2
      clear hC0 hC1 hC2
      show am_Run am_X0 (am_meth d) 16 R 36 [some (.ref 0), some (.int h9), some (.int w), none, none] [.int 0] (am_mk I L, 0, 0)
      refine ar_istore_n (j := 3) (ls' := [some (.ref 0), some (.int h9), some (.int w), some (.int 0), none]) (q := 37) rfl rfl rfl rfl rfl ?_
      refine ar_iload_n (j := 3) (q := 38) rfl rfl rfl rfl ?_
      refine ar_b0 am_c_eq (t := 47) (q := 41) rfl rfl rfl (fun _ => ?_) (fun c9 => absurd (by decide) c9)
      refine ar_aload_n (j := 0) (q := 48) rfl rfl rfl rfl ?_
      refine ar_getf (v := .ref 85) (q := 51) rfl rfl mk_0 rfl rfl ?_
      refine ar_getf (v := .int (I 85 0)) (q := 54) rfl rfl mk_85 rfl rfl ?_
      refine ar_bipush (v := 30) (q := 56) rfl rfl rfl ?_
      obtain ⟨hA, hB⟩ := h
      refine ar_br am_c_lt (t := 66) (q := 59) rfl rfl rfl (fun c_3 => ?_) (fun c_3 => ?_)
      · have h := hA c_3
        clear hA hB
        refine ar_aload_n (j := 0) (q := 67) rfl rfl rfl rfl ?_
        refine ar_getf (v := .ref 93) (q := 70) rfl rfl mk_0 rfl rfl ?_
        refine ar_invv (as := []) (rest := []) (b2 := (0, 0)) (b3 := (0, 0)) (q := 73) rfl rfl rfl rfl mk_93 rfl rfl rfl rfl rfl ?_
        refine am_meth_mono d _ _ _ _ _ (fun v9 m9 h9 => ?_) h
        obtain ⟨z_4, I_5, L_6, rfl, rfl, h⟩ := h9
        show am_Run am_X0 (am_meth d) 16 R 73 [some (.ref 0), some (.int h9), some (.int w), some (.int 0), none] [.int z_4] (am_mk I_5 L_6, 0, 0)
        refine ar_istore (ls' := [some (.ref 0), some (.int h9), some (.int w), some (.int 0), some (.int z_4)]) (q := 75) rfl rfl rfl rfl ?_
        refine ar_aload_n (j := 0) (q := 76) rfl rfl rfl rfl ?_
        refine ar_getf (v := .ref 91) (q := 79) rfl rfl mk_0 rfl rfl ?_
        refine ar_invv (as := []) (rest := []) (b2 := (0, 0)) (b3 := (0, 0)) (q := 82) rfl rfl rfl rfl mk_91 rfl rfl rfl rfl rfl ?_
        refine ok_Ro_clear_tape (by omega)  ?_
        show am_Run am_X0 (am_meth d) 16 R 82 [some (.ref 0), some (.int h9), some (.int w), some (.int 0), some (.int z_4)] [] (am_mk (va_up I_5 91 (upd (I_5 91) 0 0)) L_6, 0, 0)
        refine ar_iload (q := 84) rfl rfl rfl ?_
        refine ar_iconst (v := (-1 : Int32)) (q := 85) rfl rfl rfl ?_
        obtain ⟨hA, hB⟩ := h
        refine ar_br am_c_ne (t := 104) (q := 88) rfl rfl rfl (fun c_7 => ?_) (fun c_7 => ?_)
        · have h := hB c_7
          clear hA hB
          refine ar_bipush (v := (-20 : Int32)) (q := 106) rfl rfl rfl ?_
          refine ar_iload (q := 108) rfl rfl rfl ?_
          refine ar_ib (i := .isub) (z := (-20 : Int32) - z_4) (q := 109) rfl rfl rfl rfl rfl ?_
          exact ar_iret rfl rfl h
        · have c_7 := Classical.not_not.mp c_7
          have h := hA c_7
          clear hA hB
          refine ar_aload_n (j := 0) (q := 89) rfl rfl rfl rfl ?_
          refine ar_getf (v := .ref 85) (q := 92) rfl rfl mk_0 rfl rfl ?_
          refine ar_iload_n (j := 1) (q := 93) rfl rfl rfl rfl ?_
          refine ar_iload_n (j := 2) (q := 94) rfl rfl rfl rfl ?_
          refine ar_aload_n (j := 0) (q := 95) rfl rfl rfl rfl ?_
          refine ar_getf (v := .ref 93) (q := 98) rfl rfl mk_0 rfl rfl ?_
          refine ar_invv (as := [.int h9, .int w, .ref 93]) (rest := []) (b2 := (0, 0)) (b3 := (0, 0)) (q := 101) rfl rfl rfl rfl mk_85 rfl rfl rfl rfl rfl ?_
          refine am_meth_mono d _ _ _ _ _ (fun v9 m9 h9 => ?_) h
          obtain ⟨z_8, I_9, L_10, rfl, rfl, h⟩ := h9
          show am_Run am_X0 (am_meth d) 16 R 101 [some (.ref 0), some (.int h9), some (.int w), some (.int 0), some (.int z_4)] [.int z_8] (am_mk I_9 L_10, 0, 0)
          refine ar_goto (t := 109) rfl rfl ?_
          exact ar_iret rfl rfl h
      · have h := hB c_3
        clear hA hB
        refine ar_aload_n (j := 0) (q := 60) rfl rfl rfl rfl ?_
        refine ar_bipush (v := (-6 : Int32)) (q := 62) rfl rfl rfl ?_
        refine ar_invv (as := [.int (-6 : Int32)]) (rest := []) (b2 := (0, 0)) (b3 := (0, 0)) (q := 65) rfl rfl rfl rfl mk_0 rfl rfl rfl rfl rfl ?_
        refine ok_refuse (j := 6) (by omega) (by decide) (by decide) ?_
        show am_Run am_X0 (am_meth d) 16 R 65 [some (.ref 0), some (.int h9), some (.int w), some (.int 0), none] [.int (-6 : Int32)] (am_mk (am_rf I 6) L, 0, 0)
        exact ar_iret rfl rfl h
  · have h := hB c_1
    clear hA hB
    refine ar_aload_n (j := 0) (q := 6) rfl rfl rfl rfl ?_
    refine ar_getf (v := .ref 42) (q := 9) rfl rfl mk_0 rfl rfl ?_
    refine ar_iload_n (j := 1) (q := 10) rfl rfl rfl rfl ?_
    refine ar_invv (as := [.int h9]) (rest := []) (b2 := (0, 0)) (b3 := (0, 0)) (q := 13) rfl rfl rfl rfl mk_42 rfl rfl rfl rfl rfl ?_
    obtain ⟨hA, hB⟩ := h
    refine ok_Ho_has (by omega)  (fun c_11 => ?_) (fun c_11 => ?_)
    · have h := hA c_11
      clear hA hB
      show am_Run am_X0 (am_meth d) 16 R 13 [some (.ref 0), some (.int h9), some (.int w), none, none] [.int 1] (am_mk I L, 0, 0)
      refine ar_b0 am_c_ne (t := 22) (q := 16) rfl rfl rfl (fun _ => ?_) (fun c9 => absurd (by decide) c9)
      refine ar_iload_n (j := 2) (q := 23) rfl rfl rfl rfl ?_
      refine ar_aload_n (j := 0) (q := 24) rfl rfl rfl rfl ?_
      refine ar_getf (v := .ref 66) (q := 27) rfl rfl mk_0 rfl rfl ?_
      refine ar_getf (v := .int (I 66 0)) (q := 30) rfl rfl mk_66 rfl rfl ?_
      refine ar_sipush (v := 1500) (q := 33) rfl rfl rfl ?_
      refine ar_invs (as := [.int w, .int (I 66 0), .int 1500]) (rest := []) (b2 := (0, 0)) (b3 := (0, 0)) (q := 36) rfl rfl rfl rfl rfl rfl rfl rfl rfl ?_
      obtain ⟨hC0, hC1, hC2⟩ := h
      refine ok_bound (by omega)  (fun c_12 => ?_) (fun c_12 => ?_) (fun c_12 => ?_)
      · have h := hC0 c_12
        clear hC0 hC1 hC2
        show am_Run am_X0 (am_meth d) 16 R 36 [some (.ref 0), some (.int h9), some (.int w), none, none] [.int (-4 : Int32)] (am_mk I L, 0, 0)
        refine ar_istore_n (j := 3) (ls' := [some (.ref 0), some (.int h9), some (.int w), some (.int (-4 : Int32)), none]) (q := 37) rfl rfl rfl rfl rfl ?_
        refine ar_iload_n (j := 3) (q := 38) rfl rfl rfl rfl ?_
        refine ar_b0 am_c_eq (t := 47) (q := 41) rfl rfl rfl (fun c9 => absurd c9 (by decide)) (fun _ => ?_)
        refine ar_aload_n (j := 0) (q := 42) rfl rfl rfl rfl ?_
        refine ar_iload_n (j := 3) (q := 43) rfl rfl rfl rfl ?_
        refine ar_invv (as := [.int (-4 : Int32)]) (rest := []) (b2 := (0, 0)) (b3 := (0, 0)) (q := 46) rfl rfl rfl rfl mk_0 rfl rfl rfl rfl rfl ?_
        refine ok_refuse (j := 4) (by omega) (by decide) (by decide) ?_
        show am_Run am_X0 (am_meth d) 16 R 46 [some (.ref 0), some (.int h9), some (.int w), some (.int (-4 : Int32)), none] [.int (-4 : Int32)] (am_mk (am_rf I 4) L, 0, 0)
        exact ar_iret rfl rfl h
      · have h := hC1 c_12
        clear hC0 hC1 hC2
        show am_Run am_X0 (am_meth d) 16 R 36 [some (.ref 0), some (.int h9), some (.int w), none, none] [.int (-6 : Int32)] (am_mk I L, 0, 0)
        refine ar_istore_n (j := 3) (ls' := [some (.ref 0), some (.int h9), some (.int w), some (.int (-6 : Int32)), none]) (q := 37) rfl rfl rfl rfl rfl ?_
        refine ar_iload_n (j := 3) (q := 38) rfl rfl rfl rfl ?_
        refine ar_b0 am_c_eq (t := 47) (q := 41) rfl rfl rfl (fun c9 => absurd c9 (by decide)) (fun _ => ?_)
        refine ar_aload_n (j := 0) (q := 42) rfl rfl rfl rfl ?_
        refine ar_iload_n (j := 3) (q := 43) rfl rfl rfl rfl ?_
        refine ar_invv (as := [.int (-6 : Int32)]) (rest := []) (b2 := (0, 0)) (b3 := (0, 0)) (q := 46) rfl rfl rfl rfl mk_0 rfl rfl rfl rfl rfl ?_
        refine ok_refuse (j := 6) (by omega) (by decide) (by decide) ?_
        show am_Run am_X0 (am_meth d) 16 R 46 [some (.ref 0), some (.int h9), some (.int w), some (.int (-6 : Int32)), none] [.int (-6 : Int32)] (am_mk (am_rf I 6) L, 0, 0)
        exact ar_iret rfl rfl h
      · have h := hC2 c_12
        clear hC0 hC1 hC2
        show am_Run am_X0 (am_meth d) 16 R 36 [some (.ref 0), some (.int h9), some (.int w), none, none] [.int 0] (am_mk I L, 0, 0)
        refine ar_istore_n (j := 3) (ls' := [some (.ref 0), some (.int h9), some (.int w), some (.int 0), none]) (q := 37) rfl rfl rfl rfl rfl ?_
        refine ar_iload_n (j := 3) (q := 38) rfl rfl rfl rfl ?_
        refine ar_b0 am_c_eq (t := 47) (q := 41) rfl rfl rfl (fun _ => ?_) (fun c9 => absurd (by decide) c9)
        refine ar_aload_n (j := 0) (q := 48) rfl rfl rfl rfl ?_
        refine ar_getf (v := .ref 85) (q := 51) rfl rfl mk_0 rfl rfl ?_
        refine ar_getf (v := .int (I 85 0)) (q := 54) rfl rfl mk_85 rfl rfl ?_
        refine ar_bipush (v := 30) (q := 56) rfl rfl rfl ?_
        obtain ⟨hA, hB⟩ := h
        refine ar_br am_c_lt (t := 66) (q := 59) rfl rfl rfl (fun c_13 => ?_) (fun c_13 => ?_)
        · have h := hA c_13
          clear hA hB
          refine ar_aload_n (j := 0) (q := 67) rfl rfl rfl rfl ?_
          refine ar_getf (v := .ref 93) (q := 70) rfl rfl mk_0 rfl rfl ?_
          refine ar_invv (as := []) (rest := []) (b2 := (0, 0)) (b3 := (0, 0)) (q := 73) rfl rfl rfl rfl mk_93 rfl rfl rfl rfl rfl ?_
          refine am_meth_mono d _ _ _ _ _ (fun v9 m9 h9 => ?_) h
          obtain ⟨z_14, I_15, L_16, rfl, rfl, h⟩ := h9
          show am_Run am_X0 (am_meth d) 16 R 73 [some (.ref 0), some (.int h9), some (.int w), some (.int 0), none] [.int z_14] (am_mk I_15 L_16, 0, 0)
          refine ar_istore (ls' := [some (.ref 0), some (.int h9), some (.int w), some (.int 0), some (.int z_14)]) (q := 75) rfl rfl rfl rfl ?_
          refine ar_aload_n (j := 0) (q := 76) rfl rfl rfl rfl ?_
          refine ar_getf (v := .ref 91) (q := 79) rfl rfl mk_0 rfl rfl ?_
          refine ar_invv (as := []) (rest := []) (b2 := (0, 0)) (b3 := (0, 0)) (q := 82) rfl rfl rfl rfl mk_91 rfl rfl rfl rfl rfl ?_
          refine ok_Ro_clear_tape (by omega)  ?_
          show am_Run am_X0 (am_meth d) 16 R 82 [some (.ref 0), some (.int h9), some (.int w), some (.int 0), some (.int z_14)] [] (am_mk (va_up I_15 91 (upd (I_15 91) 0 0)) L_16, 0, 0)
          refine ar_iload (q := 84) rfl rfl rfl ?_
          refine ar_iconst (v := (-1 : Int32)) (q := 85) rfl rfl rfl ?_
          obtain ⟨hA, hB⟩ := h
          refine ar_br am_c_ne (t := 104) (q := 88) rfl rfl rfl (fun c_17 => ?_) (fun c_17 => ?_)
          · have h := hB c_17
            clear hA hB
            refine ar_bipush (v := (-20 : Int32)) (q := 106) rfl rfl rfl ?_
            refine ar_iload (q := 108) rfl rfl rfl ?_
            refine ar_ib (i := .isub) (z := (-20 : Int32) - z_14) (q := 109) rfl rfl rfl rfl rfl ?_
            exact ar_iret rfl rfl h
          · have c_17 := Classical.not_not.mp c_17
            have h := hA c_17
            clear hA hB
            refine ar_aload_n (j := 0) (q := 89) rfl rfl rfl rfl ?_
            refine ar_getf (v := .ref 85) (q := 92) rfl rfl mk_0 rfl rfl ?_
            refine ar_iload_n (j := 1) (q := 93) rfl rfl rfl rfl ?_
            refine ar_iload_n (j := 2) (q := 94) rfl rfl rfl rfl ?_
            refine ar_aload_n (j := 0) (q := 95) rfl rfl rfl rfl ?_
            refine ar_getf (v := .ref 93) (q := 98) rfl rfl mk_0 rfl rfl ?_
            refine ar_invv (as := [.int h9, .int w, .ref 93]) (rest := []) (b2 := (0, 0)) (b3 := (0, 0)) (q := 101) rfl rfl rfl rfl mk_85 rfl rfl rfl rfl rfl ?_
            refine am_meth_mono d _ _ _ _ _ (fun v9 m9 h9 => ?_) h
            obtain ⟨z_18, I_19, L_20, rfl, rfl, h⟩ := h9
            show am_Run am_X0 (am_meth d) 16 R 101 [some (.ref 0), some (.int h9), some (.int w), some (.int 0), some (.int z_14)] [.int z_18] (am_mk I_19 L_20, 0, 0)
            refine ar_goto (t := 109) rfl rfl ?_
            exact ar_iret rfl rfl h
        · have h := hB c_13
          clear hA hB
          refine ar_aload_n (j := 0) (q := 60) rfl rfl rfl rfl ?_
          refine ar_bipush (v := (-6 : Int32)) (q := 62) rfl rfl rfl ?_
          refine ar_invv (as := [.int (-6 : Int32)]) (rest := []) (b2 := (0, 0)) (b3 := (0, 0)) (q := 65) rfl rfl rfl rfl mk_0 rfl rfl rfl rfl rfl ?_
          refine ok_refuse (j := 6) (by omega) (by decide) (by decide) ?_
          show am_Run am_X0 (am_meth d) 16 R 65 [some (.ref 0), some (.int h9), some (.int w), some (.int 0), none] [.int (-6 : Int32)] (am_mk (am_rf I 6) L, 0, 0)
          exact ar_iret rfl rfl h
    · have h := hB c_11
      clear hA hB
      show am_Run am_X0 (am_meth d) 16 R 13 [some (.ref 0), some (.int h9), some (.int w), none, none] [.int 0] (am_mk I L, 0, 0)
      refine ar_b0 am_c_ne (t := 22) (q := 16) rfl rfl rfl (fun c9 => absurd (by decide) c9) (fun _ => ?_)
      refine ar_aload_n (j := 0) (q := 17) rfl rfl rfl rfl ?_
      refine ar_iconst (v := (-1 : Int32)) (q := 18) rfl rfl rfl ?_
      refine ar_invv (as := [.int (-1 : Int32)]) (rest := []) (b2 := (0, 0)) (b3 := (0, 0)) (q := 21) rfl rfl rfl rfl mk_0 rfl rfl rfl rfl rfl ?_
      refine ok_refuse (j := 1) (by omega) (by decide) (by decide) ?_
      show am_Run am_X0 (am_meth d) 16 R 21 [some (.ref 0), some (.int h9), some (.int w), none, none] [.int (-1 : Int32)] (am_mk (am_rf I 1) L, 0, 0)
      exact ar_iret rfl rfl h
theorem r_M_fault_0 {d : Nat} {R : am_R} {I : Nat → Nat → Int32} {L : Nat → Nat → Int64}  (h : am_Run am_X0 (am_meth d) 197 R 6 [some (.ref 113), some (.int 0), some (.int 0), some (.int 0), none, none] [] (am_mk I L, 0, 0)) : am_Run am_X0 (am_meth d) 197 R 0 [some (.ref 113), none, none, none, none, none] [] (am_mk I L, 0, 0) := by
  refine ar_iconst (v := 0) (q := 1) rfl rfl rfl ?_
  refine ar_istore_n (j := 1) (ls' := [some (.ref 113), some (.int 0), none, none, none, none]) (q := 2) rfl rfl rfl rfl rfl ?_
  refine ar_iconst (v := 0) (q := 3) rfl rfl rfl ?_
  refine ar_istore_n (j := 2) (ls' := [some (.ref 113), some (.int 0), some (.int 0), none, none, none]) (q := 4) rfl rfl rfl rfl rfl ?_
  refine ar_iconst (v := 0) (q := 5) rfl rfl rfl ?_
  refine ar_istore_n (j := 3) (ls' := [some (.ref 113), some (.int 0), some (.int 0), some (.int 0), none, none]) (q := 6) rfl rfl rfl rfl rfl ?_
  exact am_Run.weak (ls' := _) (by exact ⟨rfl, ⟨rfl, ⟨rfl, ⟨rfl, trivial⟩⟩⟩⟩) h
theorem r_M_fault_6 {d : Nat} (hd : 1 ≤ d) {R : am_R} {I : Nat → Nat → Int32} {L : Nat → Nat → Int64} {bh : Int32} {l : Nat} {j : Nat} (h : (((nI j) < (I 113 24) → (j < 60 ∧ (((bh = 0 → ((((I 133 j) = 40 → ((((nI l) = 5 → (R (some (.int (nI j))) (am_mk I L, 0, 0))) ∧ (¬ (nI l) = 5 → (l + 1 < 7 ∧ (∀ I_7 : Nat → Nat → Int32, I_7 = va_up I 138 (upd (I 138) (l + 1) (vp_nar .boolean 0)) → (am_Run am_X0 (am_meth d) 197 R 6 [some (.ref 113), some (.int bh), some (.int (nI (l + 1))), some (.int (nI (j + 1))), none, none] [] (am_mk I_7 L, 0, 0)))))))) ∧ (¬ (I 133 j) = 40 → ((((p_let (I 133 j)).isSome = true → (am_Run am_X0 (am_meth d) 197 R 76 [some (.ref 113), some (.int bh), some (.int (nI l)), some (.int (nI j)), some (.int (I 133 j)), some (.int 1)] [] (am_mk I L, 0, 0))) ∧ (¬ ((p_let (I 133 j)).isSome = true) → (am_Run am_X0 (am_meth d) 197 R 76 [some (.ref 113), some (.int bh), some (.int (nI l)), some (.int (nI j)), some (.int (I 133 j)), some (.int 0)] [] (am_mk I L, 0, 0))))))))) ∧ (¬ bh = 0 → ((((((I 133 j) = 43 ∨ (I 133 j) = 45) ∨ (I 133 j) = 42 ∨ (I 133 j) = 47) → (am_Run am_X0 (am_meth d) 197 R 6 [some (.ref 113), some (.int 0), some (.int (nI l)), some (.int (nI (j + 1))), none, none] [] (am_mk I L, 0, 0))) ∧ (¬ ((((I 133 j) = 43 ∨ (I 133 j) = 45) ∨ (I 133 j) = 42 ∨ (I 133 j) = 47)) → (((((I 133 j) = 60 ∨ (I 133 j) = 61 ∨ (I 133 j) = 62) → ((((nI l) ≤ 0 → ((((I 133 j) = 41 → (R (some (.int (nI j))) (am_mk I L, 0, 0))) ∧ (¬ (I 133 j) = 41 → (R (some (.int (nI j))) (am_mk I L, 0, 0)))))) ∧ (¬ (nI l) ≤ 0 → (l < 7 ∧ ((((I 138 l) = 0 → (∀ I_16 : Nat → Nat → Int32, I_16 = va_up I 138 (upd (I 138) l (vp_nar .boolean 1)) → (am_Run am_X0 (am_meth d) 197 R 6 [some (.ref 113), some (.int 0), some (.int (nI l)), some (.int (nI (j + 1))), none, none] [] (am_mk I_16 L, 0, 0)))) ∧ (¬ (I 138 l) = 0 → ((((I 133 j) = 41 → (am_Run am_X0 (am_meth d) 197 R 6 [some (.ref 113), some (.int bh), some (.int ((nI l) + (-1))), some (.int (nI (j + 1))), none, none] [] (am_mk I L, 0, 0))) ∧ (¬ (I 133 j) = 41 → (R (some (.int (nI j))) (am_mk I L, 0, 0))))))))))))) ∧ (¬ (((I 133 j) = 60 ∨ (I 133 j) = 61 ∨ (I 133 j) = 62)) → ((((I 133 j) = 41 → ((((nI l) ≤ 0 → (R (some (.int (nI j))) (am_mk I L, 0, 0))) ∧ (¬ (nI l) ≤ 0 → (am_Run am_X0 (am_meth d) 197 R 6 [some (.ref 113), some (.int bh), some (.int ((nI l) + (-1))), some (.int (nI (j + 1))), none, none] [] (am_mk I L, 0, 0)))))) ∧ (¬ (I 133 j) = 41 → (R (some (.int (nI j))) (am_mk I L, 0, 0)))))))))))))))) ∧ (¬ (nI j) < (I 113 24) → ((((nI l) ≤ 0 → (((bh = 0 → (R (some (.int (I 113 24))) (am_mk I L, 0, 0))) ∧ (¬ bh = 0 → (R (some (.int (-1 : Int32))) (am_mk I L, 0, 0)))))) ∧ (¬ (nI l) ≤ 0 → (R (some (.int (I 113 24))) (am_mk I L, 0, 0)))))))) : am_Run am_X0 (am_meth d) 197 R 6 [some (.ref 113), some (.int bh), some (.int (nI l)), some (.int (nI j)), none, none] [] (am_mk I L, 0, 0) := by
  refine ar_iload_n (j := 3) (q := 7) rfl rfl rfl rfl ?_
  refine ar_aload_n (j := 0) (q := 8) rfl rfl rfl rfl ?_
  refine ar_getf (v := .int (I 113 24)) (q := 11) rfl rfl mk_113 rfl rfl ?_
  obtain ⟨hA, hB⟩ := h
  refine ar_br am_d_ge (t := 220) (q := 14) rfl rfl rfl (fun c_1 => ?_) (fun c_1 => ?_)
  · have h := hB c_1
    clear hA hB
    refine ar_iload_n (j := 2) (q := 221) rfl rfl rfl rfl ?_
    obtain ⟨hA, hB⟩ := h
    refine ar_b0 am_d_gt (t := 228) (q := 224) rfl rfl rfl (fun c_21 => ?_) (fun c_21 => ?_)
    · have h := hB c_21
      clear hA hB
      refine ar_aload_n (j := 0) (q := 229) rfl rfl rfl rfl ?_
      refine ar_getf (v := .int (I 113 24)) (q := 232) rfl rfl mk_113 rfl rfl ?_
      refine ar_goto (t := 236) rfl rfl ?_
      exact ar_iret rfl rfl h
    · have c_21 := Classical.not_not.mp c_21
      have h := hA c_21
      clear hA hB
      refine ar_iload_n (j := 1) (q := 225) rfl rfl rfl rfl ?_
      obtain ⟨hA, hB⟩ := h
      refine ar_b0 am_c_ne (t := 235) (q := 228) rfl rfl rfl (fun c_22 => ?_) (fun c_22 => ?_)
      · have h := hB c_22
        clear hA hB
        refine ar_iconst (v := (-1 : Int32)) (q := 236) rfl rfl rfl ?_
        exact ar_iret rfl rfl h
      · have c_22 := Classical.not_not.mp c_22
        have h := hA c_22
        clear hA hB
        refine ar_aload_n (j := 0) (q := 229) rfl rfl rfl rfl ?_
        refine ar_getf (v := .int (I 113 24)) (q := 232) rfl rfl mk_113 rfl rfl ?_
        refine ar_goto (t := 236) rfl rfl ?_
        exact ar_iret rfl rfl h
  · have c_1 := Classical.not_not.mp c_1
    have h := hA c_1
    clear hA hB
    refine ar_aload_n (j := 0) (q := 15) rfl rfl rfl rfl ?_
    refine ar_getf (v := .ref 133) (q := 18) rfl rfl mk_113 rfl rfl ?_
    refine ar_iload_n (j := 3) (q := 19) rfl rfl rfl rfl ?_
    obtain ⟨hx_2, h⟩ := h
    refine ar_bald (v := I 133 j) (q := 20) rfl (Or.inl rfl) mk_133 (am_inE rfl hx_2 (by decide)) (am_clE (n := 60) rfl hx_2 (by decide)) rfl ?_
    refine ar_istore (ls' := [some (.ref 113), some (.int bh), some (.int (nI l)), some (.int (nI j)), some (.int (I 133 j)), none]) (q := 22) rfl rfl rfl rfl ?_
    refine ar_iload_n (j := 1) (q := 23) rfl rfl rfl rfl ?_
    obtain ⟨hA, hB⟩ := h
    refine ar_b0 am_c_ne (t := 56) (q := 26) rfl rfl rfl (fun c_3 => ?_) (fun c_3 => ?_)
    · have h := hB c_3
      clear hA hB
      refine ar_iload_n (j := 1) (q := 57) rfl rfl rfl rfl ?_
      refine ar_b0 am_c_ne (t := 141) (q := 60) rfl rfl rfl (fun _ => ?_) (fun c9 => absurd c_3 c9)
      refine ar_aload_n (j := 0) (q := 142) rfl rfl rfl rfl ?_
      refine ar_iload (q := 144) rfl rfl rfl ?_
      refine ar_invv (as := [.int (I 133 j)]) (rest := []) (b2 := (0, 0)) (b3 := (0, 0)) (q := 147) rfl rfl rfl rfl mk_113 rfl rfl rfl rfl rfl ?_
      obtain ⟨hA, hB⟩ := h
      refine ok_M_isSign (by omega)  (fun c_10 => ?_) (fun c_10 => ?_)
      · have h := hA c_10
        clear hA hB
        show am_Run am_X0 (am_meth d) 197 R 147 [some (.ref 113), some (.int bh), some (.int (nI l)), some (.int (nI j)), some (.int (I 133 j)), none] [.int 1] (am_mk I L, 0, 0)
        refine ar_b0 am_c_eq (t := 158) (q := 150) rfl rfl rfl (fun c9 => absurd c9 (by decide)) (fun _ => ?_)
        refine ar_iconst (v := 0) (q := 151) rfl rfl rfl ?_
        refine ar_istore_n (j := 1) (ls' := [some (.ref 113), some (.int 0), some (.int (nI l)), some (.int (nI j)), some (.int (I 133 j)), none]) (q := 152) rfl rfl rfl rfl rfl ?_
        refine ar_iinc (v := nI (j + 1)) (ls' := [some (.ref 113), some (.int 0), some (.int (nI l)), some (.int (nI (j + 1))), some (.int (I 133 j)), none]) (q := 155) rfl rfl rfl (nI_1 _) rfl rfl ?_
        refine ar_goto (t := 217) rfl rfl ?_
        refine ar_goto (t := 6) rfl rfl ?_
        exact am_Run.weak (ls' := _) (by exact ⟨rfl, ⟨rfl, ⟨rfl, ⟨rfl, trivial⟩⟩⟩⟩) h
      · have h := hB c_10
        clear hA hB
        show am_Run am_X0 (am_meth d) 197 R 147 [some (.ref 113), some (.int bh), some (.int (nI l)), some (.int (nI j)), some (.int (I 133 j)), none] [.int 0] (am_mk I L, 0, 0)
        refine ar_b0 am_c_eq (t := 158) (q := 150) rfl rfl rfl (fun _ => ?_) (fun c9 => absurd (by decide) c9)
        refine ar_aload_n (j := 0) (q := 159) rfl rfl rfl rfl ?_
        refine ar_iload (q := 161) rfl rfl rfl ?_
        refine ar_invv (as := [.int (I 133 j)]) (rest := []) (b2 := (0, 0)) (b3 := (0, 0)) (q := 164) rfl rfl rfl rfl mk_113 rfl rfl rfl rfl rfl ?_
        obtain ⟨hA, hB⟩ := h
        refine ok_M_isRelation (by omega)  (fun c_11 => ?_) (fun c_11 => ?_)
        · have h := hA c_11
          clear hA hB
          show am_Run am_X0 (am_meth d) 197 R 164 [some (.ref 113), some (.int bh), some (.int (nI l)), some (.int (nI j)), some (.int (I 133 j)), none] [.int 1] (am_mk I L, 0, 0)
          refine ar_b0 am_c_eq (t := 195) (q := 167) rfl rfl rfl (fun c9 => absurd c9 (by decide)) (fun _ => ?_)
          refine ar_iload_n (j := 2) (q := 168) rfl rfl rfl rfl ?_
          obtain ⟨hA, hB⟩ := h
          refine ar_b0 am_c_le (t := 195) (q := 171) rfl rfl rfl (fun c_12 => ?_) (fun c_12 => ?_)
          · have h := hA c_12
            clear hA hB
            refine ar_iload (q := 197) rfl rfl rfl ?_
            refine ar_bipush (v := 41) (q := 199) rfl rfl rfl ?_
            obtain ⟨hA, hB⟩ := h
            refine ar_br am_c_ne (t := 215) (q := 202) rfl rfl rfl (fun c_13 => ?_) (fun c_13 => ?_)
            · have h := hB c_13
              clear hA hB
              refine ar_iload_n (j := 3) (q := 216) rfl rfl rfl rfl ?_
              exact ar_iret rfl rfl h
            · have c_13 := Classical.not_not.mp c_13
              have h := hA c_13
              clear hA hB
              refine ar_iload_n (j := 2) (q := 203) rfl rfl rfl rfl ?_
              refine ar_b0 am_c_le (t := 215) (q := 206) rfl rfl rfl (fun _ => ?_) (fun c9 => absurd c_12 c9)
              refine ar_iload_n (j := 3) (q := 216) rfl rfl rfl rfl ?_
              exact ar_iret rfl rfl h
          · have h := hB c_12
            clear hA hB
            refine ar_aload_n (j := 0) (q := 172) rfl rfl rfl rfl ?_
            refine ar_getf (v := .ref 138) (q := 175) rfl rfl mk_113 rfl rfl ?_
            refine ar_iload_n (j := 2) (q := 176) rfl rfl rfl rfl ?_
            obtain ⟨hx_14, h⟩ := h
            refine ar_bald (v := I 138 l) (q := 177) rfl (Or.inr rfl) mk_138 (am_inE rfl hx_14 (by decide)) (am_clE (n := 7) rfl hx_14 (by decide)) rfl ?_
            obtain ⟨hA, hB⟩ := h
            refine ar_b0 am_c_ne (t := 195) (q := 180) rfl rfl rfl (fun c_15 => ?_) (fun c_15 => ?_)
            · have h := hB c_15
              clear hA hB
              refine ar_iload (q := 197) rfl rfl rfl ?_
              refine ar_bipush (v := 41) (q := 199) rfl rfl rfl ?_
              obtain ⟨hA, hB⟩ := h
              refine ar_br am_c_ne (t := 215) (q := 202) rfl rfl rfl (fun c_18 => ?_) (fun c_18 => ?_)
              · have h := hB c_18
                clear hA hB
                refine ar_iload_n (j := 3) (q := 216) rfl rfl rfl rfl ?_
                exact ar_iret rfl rfl h
              · have c_18 := Classical.not_not.mp c_18
                have h := hA c_18
                clear hA hB
                refine ar_iload_n (j := 2) (q := 203) rfl rfl rfl rfl ?_
                refine ar_b0 am_c_le (t := 215) (q := 206) rfl rfl rfl (fun c9 => absurd c9 c_12) (fun _ => ?_)
                refine ar_iinc (v := (nI l) + (-1)) (ls' := [some (.ref 113), some (.int bh), some (.int ((nI l) + (-1))), some (.int (nI j)), some (.int (I 133 j)), none]) (q := 209) rfl rfl rfl rfl rfl rfl ?_
                refine ar_iinc (v := nI (j + 1)) (ls' := [some (.ref 113), some (.int bh), some (.int ((nI l) + (-1))), some (.int (nI (j + 1))), some (.int (I 133 j)), none]) (q := 212) rfl rfl rfl (nI_1 _) rfl rfl ?_
                refine ar_goto (t := 217) rfl rfl ?_
                refine ar_goto (t := 6) rfl rfl ?_
                exact am_Run.weak (ls' := _) (by exact ⟨rfl, ⟨rfl, ⟨rfl, ⟨rfl, trivial⟩⟩⟩⟩) h
            · have c_15 := Classical.not_not.mp c_15
              have h := hA c_15
              clear hA hB
              refine ar_aload_n (j := 0) (q := 181) rfl rfl rfl rfl ?_
              refine ar_getf (v := .ref 138) (q := 184) rfl rfl mk_113 rfl rfl ?_
              refine ar_iload_n (j := 2) (q := 185) rfl rfl rfl rfl ?_
              refine ar_iconst (v := 1) (q := 186) rfl rfl rfl ?_
              obtain ⟨I_16, hI_17⟩ : ∃ z : Nat → Nat → Int32, z = va_up I 138 (upd (I 138) l (vp_nar .boolean 1)) := ⟨_, rfl⟩
              have h := h I_16 hI_17
              refine ar_bast2 (hp2 := am_mk I_16 L) (q := 187) rfl mk_138 (am_inE rfl hx_14 (by decide)) (by rw [am_clT rfl hx_14 (by decide), hI_17]; exact mk_s138) rfl ?_
              refine ar_iconst (v := 0) (q := 188) rfl rfl rfl ?_
              refine ar_istore_n (j := 1) (ls' := [some (.ref 113), some (.int 0), some (.int (nI l)), some (.int (nI j)), some (.int (I 133 j)), none]) (q := 189) rfl rfl rfl rfl rfl ?_
              refine ar_iinc (v := nI (j + 1)) (ls' := [some (.ref 113), some (.int 0), some (.int (nI l)), some (.int (nI (j + 1))), some (.int (I 133 j)), none]) (q := 192) rfl rfl rfl (nI_1 _) rfl rfl ?_
              refine ar_goto (t := 217) rfl rfl ?_
              refine ar_goto (t := 6) rfl rfl ?_
              exact am_Run.weak (ls' := _) (by exact ⟨rfl, ⟨rfl, ⟨rfl, ⟨rfl, trivial⟩⟩⟩⟩) h
        · have h := hB c_11
          clear hA hB
          show am_Run am_X0 (am_meth d) 197 R 164 [some (.ref 113), some (.int bh), some (.int (nI l)), some (.int (nI j)), some (.int (I 133 j)), none] [.int 0] (am_mk I L, 0, 0)
          refine ar_b0 am_c_eq (t := 195) (q := 167) rfl rfl rfl (fun _ => ?_) (fun c9 => absurd (by decide) c9)
          refine ar_iload (q := 197) rfl rfl rfl ?_
          refine ar_bipush (v := 41) (q := 199) rfl rfl rfl ?_
          obtain ⟨hA, hB⟩ := h
          refine ar_br am_c_ne (t := 215) (q := 202) rfl rfl rfl (fun c_19 => ?_) (fun c_19 => ?_)
          · have h := hB c_19
            clear hA hB
            refine ar_iload_n (j := 3) (q := 216) rfl rfl rfl rfl ?_
            exact ar_iret rfl rfl h
          · have c_19 := Classical.not_not.mp c_19
            have h := hA c_19
            clear hA hB
            refine ar_iload_n (j := 2) (q := 203) rfl rfl rfl rfl ?_
            obtain ⟨hA, hB⟩ := h
            refine ar_b0 am_c_le (t := 215) (q := 206) rfl rfl rfl (fun c_20 => ?_) (fun c_20 => ?_)
            · have h := hA c_20
              clear hA hB
              refine ar_iload_n (j := 3) (q := 216) rfl rfl rfl rfl ?_
              exact ar_iret rfl rfl h
            · have h := hB c_20
              clear hA hB
              refine ar_iinc (v := (nI l) + (-1)) (ls' := [some (.ref 113), some (.int bh), some (.int ((nI l) + (-1))), some (.int (nI j)), some (.int (I 133 j)), none]) (q := 209) rfl rfl rfl rfl rfl rfl ?_
              refine ar_iinc (v := nI (j + 1)) (ls' := [some (.ref 113), some (.int bh), some (.int ((nI l) + (-1))), some (.int (nI (j + 1))), some (.int (I 133 j)), none]) (q := 212) rfl rfl rfl (nI_1 _) rfl rfl ?_
              refine ar_goto (t := 217) rfl rfl ?_
              refine ar_goto (t := 6) rfl rfl ?_
              exact am_Run.weak (ls' := _) (by exact ⟨rfl, ⟨rfl, ⟨rfl, ⟨rfl, trivial⟩⟩⟩⟩) h
    · have c_3 := Classical.not_not.mp c_3
      have h := hA c_3
      clear hA hB
      refine ar_iload (q := 28) rfl rfl rfl ?_
      refine ar_bipush (v := 40) (q := 30) rfl rfl rfl ?_
      obtain ⟨hA, hB⟩ := h
      refine ar_br am_c_ne (t := 56) (q := 33) rfl rfl rfl (fun c_4 => ?_) (fun c_4 => ?_)
      · have h := hB c_4
        clear hA hB
        refine ar_iload_n (j := 1) (q := 57) rfl rfl rfl rfl ?_
        refine ar_b0 am_c_ne (t := 141) (q := 60) rfl rfl rfl (fun c9 => absurd c_3 c9) (fun _ => ?_)
        refine ar_aload_n (j := 0) (q := 61) rfl rfl rfl rfl ?_
        refine ar_iload (q := 63) rfl rfl rfl ?_
        refine ar_invv (as := [.int (I 133 j)]) (rest := []) (b2 := (0, 0)) (b3 := (0, 0)) (q := 66) rfl rfl rfl rfl mk_113 rfl rfl rfl rfl rfl ?_
        obtain ⟨hA, hB⟩ := h
        refine ok_M_isLetter (by omega)  (fun c_9 => ?_) (fun c_9 => ?_)
        · have h := hA c_9
          clear hA hB
          show am_Run am_X0 (am_meth d) 197 R 66 [some (.ref 113), some (.int bh), some (.int (nI l)), some (.int (nI j)), some (.int (I 133 j)), none] [.int 1] (am_mk I L, 0, 0)
          refine ar_b0 am_c_eq (t := 73) (q := 69) rfl rfl rfl (fun c9 => absurd c9 (by decide)) (fun _ => ?_)
          refine ar_iconst (v := 1) (q := 70) rfl rfl rfl ?_
          refine ar_goto (t := 74) rfl rfl ?_
          refine ar_istore (ls' := [some (.ref 113), some (.int bh), some (.int (nI l)), some (.int (nI j)), some (.int (I 133 j)), some (.int 1)]) (q := 76) rfl rfl rfl rfl ?_
          exact am_Run.weak (ls' := _) (by exact ⟨rfl, ⟨rfl, ⟨rfl, ⟨rfl, ⟨rfl, ⟨rfl, trivial⟩⟩⟩⟩⟩⟩) h
        · have h := hB c_9
          clear hA hB
          show am_Run am_X0 (am_meth d) 197 R 66 [some (.ref 113), some (.int bh), some (.int (nI l)), some (.int (nI j)), some (.int (I 133 j)), none] [.int 0] (am_mk I L, 0, 0)
          refine ar_b0 am_c_eq (t := 73) (q := 69) rfl rfl rfl (fun _ => ?_) (fun c9 => absurd (by decide) c9)
          refine ar_iconst (v := 0) (q := 74) rfl rfl rfl ?_
          refine ar_istore (ls' := [some (.ref 113), some (.int bh), some (.int (nI l)), some (.int (nI j)), some (.int (I 133 j)), some (.int 0)]) (q := 76) rfl rfl rfl rfl ?_
          exact am_Run.weak (ls' := _) (by exact ⟨rfl, ⟨rfl, ⟨rfl, ⟨rfl, ⟨rfl, ⟨rfl, trivial⟩⟩⟩⟩⟩⟩) h
      · have c_4 := Classical.not_not.mp c_4
        have h := hA c_4
        clear hA hB
        refine ar_iload_n (j := 2) (q := 34) rfl rfl rfl rfl ?_
        refine ar_iconst (v := 5) (q := 35) rfl rfl rfl ?_
        obtain ⟨hA, hB⟩ := h
        refine ar_br am_c_ne (t := 40) (q := 38) rfl rfl rfl (fun c_5 => ?_) (fun c_5 => ?_)
        · have h := hB c_5
          clear hA hB
          refine ar_iinc (v := nI (l + 1)) (ls' := [some (.ref 113), some (.int bh), some (.int (nI (l + 1))), some (.int (nI j)), some (.int (I 133 j)), none]) (q := 43) rfl rfl rfl (nI_1 _) rfl rfl ?_
          refine ar_aload_n (j := 0) (q := 44) rfl rfl rfl rfl ?_
          refine ar_getf (v := .ref 138) (q := 47) rfl rfl mk_113 rfl rfl ?_
          refine ar_iload_n (j := 2) (q := 48) rfl rfl rfl rfl ?_
          refine ar_iconst (v := 0) (q := 49) rfl rfl rfl ?_
          obtain ⟨hx_6, h⟩ := h
          obtain ⟨I_7, hI_8⟩ : ∃ z : Nat → Nat → Int32, z = va_up I 138 (upd (I 138) (l + 1) (vp_nar .boolean 0)) := ⟨_, rfl⟩
          have h := h I_7 hI_8
          refine ar_bast2 (hp2 := am_mk I_7 L) (q := 50) rfl mk_138 (am_inE rfl hx_6 (by decide)) (by rw [am_clT rfl hx_6 (by decide), hI_8]; exact mk_s138) rfl ?_
          refine ar_iinc (v := nI (j + 1)) (ls' := [some (.ref 113), some (.int bh), some (.int (nI (l + 1))), some (.int (nI (j + 1))), some (.int (I 133 j)), none]) (q := 53) rfl rfl rfl (nI_1 _) rfl rfl ?_
          refine ar_goto (t := 217) rfl rfl ?_
          refine ar_goto (t := 6) rfl rfl ?_
          exact am_Run.weak (ls' := _) (by exact ⟨rfl, ⟨rfl, ⟨rfl, ⟨rfl, trivial⟩⟩⟩⟩) h
        · have c_5 := Classical.not_not.mp c_5
          have h := hA c_5
          clear hA hB
          refine ar_iload_n (j := 3) (q := 39) rfl rfl rfl rfl ?_
          exact ar_iret rfl rfl h
theorem r_M_fault_76 {d : Nat} (hd : 1 ≤ d) {R : am_R} {I : Nat → Nat → Int32} {L : Nat → Nat → Int64} {bh : Int32} {l : Nat} {j : Nat} {b : Int32} {m : Nat} (h : (((p_let b).isSome = true → ((((nI m) = 0 → (R (some (.int (nI j))) (am_mk I L, 0, 0))) ∧ (¬ (nI m) = 0 → (am_Run am_X0 (am_meth d) 197 R 6 [some (.ref 113), some (.int 1), some (.int (nI l)), some (.int ((nI j) + (nI m))), none, none] [] (am_mk I L, 0, 0)))))) ∧ (¬ ((p_let b).isSome = true) → ((((nI m) < 5 → (((((nI j) + (nI m)) < (I 113 24) → (∃ j_5 : Nat, j_5 < 60 ∧ (nI j) + (nI m) = nI j_5 ∧ (((p_dig (I 133 j_5) = true → (am_Run am_X0 (am_meth d) 197 R 76 [some (.ref 113), some (.int bh), some (.int (nI l)), some (.int (nI j)), some (.int b), some (.int (nI (m + 1)))] [] (am_mk I L, 0, 0))) ∧ (¬ (p_dig (I 133 j_5) = true) → ((((nI m) = 0 → (R (some (.int (nI j))) (am_mk I L, 0, 0))) ∧ (¬ (nI m) = 0 → (am_Run am_X0 (am_meth d) 197 R 6 [some (.ref 113), some (.int 1), some (.int (nI l)), some (.int ((nI j) + (nI m))), none, none] [] (am_mk I L, 0, 0)))))))))) ∧ (¬ ((nI j) + (nI m)) < (I 113 24) → ((((nI m) = 0 → (R (some (.int (nI j))) (am_mk I L, 0, 0))) ∧ (¬ (nI m) = 0 → (am_Run am_X0 (am_meth d) 197 R 6 [some (.ref 113), some (.int 1), some (.int (nI l)), some (.int ((nI j) + (nI m))), none, none] [] (am_mk I L, 0, 0))))))))) ∧ (¬ (nI m) < 5 → ((((nI m) = 0 → (R (some (.int (nI j))) (am_mk I L, 0, 0))) ∧ (¬ (nI m) = 0 → (am_Run am_X0 (am_meth d) 197 R 6 [some (.ref 113), some (.int 1), some (.int (nI l)), some (.int ((nI j) + (nI m))), none, none] [] (am_mk I L, 0, 0))))))))))) : am_Run am_X0 (am_meth d) 197 R 76 [some (.ref 113), some (.int bh), some (.int (nI l)), some (.int (nI j)), some (.int b), some (.int (nI m))] [] (am_mk I L, 0, 0) := by
  refine ar_aload_n (j := 0) (q := 77) rfl rfl rfl rfl ?_
  refine ar_iload (q := 79) rfl rfl rfl ?_
  refine ar_invv (as := [.int b]) (rest := []) (b2 := (0, 0)) (b3 := (0, 0)) (q := 82) rfl rfl rfl rfl mk_113 rfl rfl rfl rfl rfl ?_
  obtain ⟨hA, hB⟩ := h
  refine ok_M_isLetter (by omega)  (fun c_1 => ?_) (fun c_1 => ?_)
  · have h := hA c_1
    clear hA hB
    show am_Run am_X0 (am_meth d) 197 R 82 [some (.ref 113), some (.int bh), some (.int (nI l)), some (.int (nI j)), some (.int b), some (.int (nI m))] [.int 1] (am_mk I L, 0, 0)
    refine ar_b0 am_c_ne (t := 124) (q := 85) rfl rfl rfl (fun _ => ?_) (fun c9 => absurd (by decide) c9)
    refine ar_iload (q := 126) rfl rfl rfl ?_
    obtain ⟨hA, hB⟩ := h
    refine ar_b0 am_c_ne (t := 131) (q := 129) rfl rfl rfl (fun c_2 => ?_) (fun c_2 => ?_)
    · have h := hB c_2
      clear hA hB
      refine ar_iload_n (j := 3) (q := 132) rfl rfl rfl rfl ?_
      refine ar_iload (q := 134) rfl rfl rfl ?_
      refine ar_ib (i := .iadd) (z := (nI j) + (nI m)) (q := 135) rfl rfl rfl rfl rfl ?_
      refine ar_istore_n (j := 3) (ls' := [some (.ref 113), some (.int bh), some (.int (nI l)), some (.int ((nI j) + (nI m))), some (.int b), some (.int (nI m))]) (q := 136) rfl rfl rfl rfl rfl ?_
      refine ar_iconst (v := 1) (q := 137) rfl rfl rfl ?_
      refine ar_istore_n (j := 1) (ls' := [some (.ref 113), some (.int 1), some (.int (nI l)), some (.int ((nI j) + (nI m))), some (.int b), some (.int (nI m))]) (q := 138) rfl rfl rfl rfl rfl ?_
      refine ar_goto (t := 217) rfl rfl ?_
      refine ar_goto (t := 6) rfl rfl ?_
      exact am_Run.weak (ls' := _) (by exact ⟨rfl, ⟨rfl, ⟨rfl, ⟨rfl, trivial⟩⟩⟩⟩) h
    · have c_2 := Classical.not_not.mp c_2
      have h := hA c_2
      clear hA hB
      refine ar_iload_n (j := 3) (q := 130) rfl rfl rfl rfl ?_
      exact ar_iret rfl rfl h
  · have h := hB c_1
    clear hA hB
    show am_Run am_X0 (am_meth d) 197 R 82 [some (.ref 113), some (.int bh), some (.int (nI l)), some (.int (nI j)), some (.int b), some (.int (nI m))] [.int 0] (am_mk I L, 0, 0)
    refine ar_b0 am_c_ne (t := 124) (q := 85) rfl rfl rfl (fun c9 => absurd (by decide) c9) (fun _ => ?_)
    refine ar_iload (q := 87) rfl rfl rfl ?_
    refine ar_iconst (v := 5) (q := 88) rfl rfl rfl ?_
    obtain ⟨hA, hB⟩ := h
    refine ar_br am_d_ge (t := 124) (q := 91) rfl rfl rfl (fun c_3 => ?_) (fun c_3 => ?_)
    · have h := hB c_3
      clear hA hB
      refine ar_iload (q := 126) rfl rfl rfl ?_
      obtain ⟨hA, hB⟩ := h
      refine ar_b0 am_c_ne (t := 131) (q := 129) rfl rfl rfl (fun c_11 => ?_) (fun c_11 => ?_)
      · have h := hB c_11
        clear hA hB
        refine ar_iload_n (j := 3) (q := 132) rfl rfl rfl rfl ?_
        refine ar_iload (q := 134) rfl rfl rfl ?_
        refine ar_ib (i := .iadd) (z := (nI j) + (nI m)) (q := 135) rfl rfl rfl rfl rfl ?_
        refine ar_istore_n (j := 3) (ls' := [some (.ref 113), some (.int bh), some (.int (nI l)), some (.int ((nI j) + (nI m))), some (.int b), some (.int (nI m))]) (q := 136) rfl rfl rfl rfl rfl ?_
        refine ar_iconst (v := 1) (q := 137) rfl rfl rfl ?_
        refine ar_istore_n (j := 1) (ls' := [some (.ref 113), some (.int 1), some (.int (nI l)), some (.int ((nI j) + (nI m))), some (.int b), some (.int (nI m))]) (q := 138) rfl rfl rfl rfl rfl ?_
        refine ar_goto (t := 217) rfl rfl ?_
        refine ar_goto (t := 6) rfl rfl ?_
        exact am_Run.weak (ls' := _) (by exact ⟨rfl, ⟨rfl, ⟨rfl, ⟨rfl, trivial⟩⟩⟩⟩) h
      · have c_11 := Classical.not_not.mp c_11
        have h := hA c_11
        clear hA hB
        refine ar_iload_n (j := 3) (q := 130) rfl rfl rfl rfl ?_
        exact ar_iret rfl rfl h
    · have c_3 := Classical.not_not.mp c_3
      have h := hA c_3
      clear hA hB
      refine ar_iload_n (j := 3) (q := 92) rfl rfl rfl rfl ?_
      refine ar_iload (q := 94) rfl rfl rfl ?_
      refine ar_ib (i := .iadd) (z := (nI j) + (nI m)) (q := 95) rfl rfl rfl rfl rfl ?_
      refine ar_aload_n (j := 0) (q := 96) rfl rfl rfl rfl ?_
      refine ar_getf (v := .int (I 113 24)) (q := 99) rfl rfl mk_113 rfl rfl ?_
      obtain ⟨hA, hB⟩ := h
      refine ar_br am_d_ge (t := 124) (q := 102) rfl rfl rfl (fun c_4 => ?_) (fun c_4 => ?_)
      · have h := hB c_4
        clear hA hB
        refine ar_iload (q := 126) rfl rfl rfl ?_
        obtain ⟨hA, hB⟩ := h
        refine ar_b0 am_c_ne (t := 131) (q := 129) rfl rfl rfl (fun c_10 => ?_) (fun c_10 => ?_)
        · have h := hB c_10
          clear hA hB
          refine ar_iload_n (j := 3) (q := 132) rfl rfl rfl rfl ?_
          refine ar_iload (q := 134) rfl rfl rfl ?_
          refine ar_ib (i := .iadd) (z := (nI j) + (nI m)) (q := 135) rfl rfl rfl rfl rfl ?_
          refine ar_istore_n (j := 3) (ls' := [some (.ref 113), some (.int bh), some (.int (nI l)), some (.int ((nI j) + (nI m))), some (.int b), some (.int (nI m))]) (q := 136) rfl rfl rfl rfl rfl ?_
          refine ar_iconst (v := 1) (q := 137) rfl rfl rfl ?_
          refine ar_istore_n (j := 1) (ls' := [some (.ref 113), some (.int 1), some (.int (nI l)), some (.int ((nI j) + (nI m))), some (.int b), some (.int (nI m))]) (q := 138) rfl rfl rfl rfl rfl ?_
          refine ar_goto (t := 217) rfl rfl ?_
          refine ar_goto (t := 6) rfl rfl ?_
          exact am_Run.weak (ls' := _) (by exact ⟨rfl, ⟨rfl, ⟨rfl, ⟨rfl, trivial⟩⟩⟩⟩) h
        · have c_10 := Classical.not_not.mp c_10
          have h := hA c_10
          clear hA hB
          refine ar_iload_n (j := 3) (q := 130) rfl rfl rfl rfl ?_
          exact ar_iret rfl rfl h
      · have c_4 := Classical.not_not.mp c_4
        have h := hA c_4
        clear hA hB
        refine ar_aload_n (j := 0) (q := 103) rfl rfl rfl rfl ?_
        refine ar_aload_n (j := 0) (q := 104) rfl rfl rfl rfl ?_
        refine ar_getf (v := .ref 133) (q := 107) rfl rfl mk_113 rfl rfl ?_
        refine ar_iload_n (j := 3) (q := 108) rfl rfl rfl rfl ?_
        refine ar_iload (q := 110) rfl rfl rfl ?_
        refine ar_ib (i := .iadd) (z := (nI j) + (nI m)) (q := 111) rfl rfl rfl rfl rfl ?_
        obtain ⟨j_5, hx_6, hi_7, h⟩ := h
        refine ar_bald (v := I 133 j_5) (q := 112) rfl (Or.inl rfl) mk_133 (am_inE hi_7 hx_6 (by decide)) (am_clE (n := 60) hi_7 hx_6 (by decide)) rfl ?_
        refine ar_invv (as := [.int (I 133 j_5)]) (rest := []) (b2 := (0, 0)) (b3 := (0, 0)) (q := 115) rfl rfl rfl rfl mk_113 rfl rfl rfl rfl rfl ?_
        obtain ⟨hA, hB⟩ := h
        refine ok_M_isDigit (by omega)  (fun c_8 => ?_) (fun c_8 => ?_)
        · have h := hA c_8
          clear hA hB
          show am_Run am_X0 (am_meth d) 197 R 115 [some (.ref 113), some (.int bh), some (.int (nI l)), some (.int (nI j)), some (.int b), some (.int (nI m))] [.int 1] (am_mk I L, 0, 0)
          refine ar_b0 am_c_eq (t := 124) (q := 118) rfl rfl rfl (fun c9 => absurd c9 (by decide)) (fun _ => ?_)
          refine ar_iinc (v := nI (m + 1)) (ls' := [some (.ref 113), some (.int bh), some (.int (nI l)), some (.int (nI j)), some (.int b), some (.int (nI (m + 1)))]) (q := 121) rfl rfl rfl (nI_1 _) rfl rfl ?_
          refine ar_goto (t := 76) rfl rfl ?_
          exact am_Run.weak (ls' := _) (by exact ⟨rfl, ⟨rfl, ⟨rfl, ⟨rfl, ⟨rfl, ⟨rfl, trivial⟩⟩⟩⟩⟩⟩) h
        · have h := hB c_8
          clear hA hB
          show am_Run am_X0 (am_meth d) 197 R 115 [some (.ref 113), some (.int bh), some (.int (nI l)), some (.int (nI j)), some (.int b), some (.int (nI m))] [.int 0] (am_mk I L, 0, 0)
          refine ar_b0 am_c_eq (t := 124) (q := 118) rfl rfl rfl (fun _ => ?_) (fun c9 => absurd (by decide) c9)
          refine ar_iload (q := 126) rfl rfl rfl ?_
          obtain ⟨hA, hB⟩ := h
          refine ar_b0 am_c_ne (t := 131) (q := 129) rfl rfl rfl (fun c_9 => ?_) (fun c_9 => ?_)
          · have h := hB c_9
            clear hA hB
            refine ar_iload_n (j := 3) (q := 132) rfl rfl rfl rfl ?_
            refine ar_iload (q := 134) rfl rfl rfl ?_
            refine ar_ib (i := .iadd) (z := (nI j) + (nI m)) (q := 135) rfl rfl rfl rfl rfl ?_
            refine ar_istore_n (j := 3) (ls' := [some (.ref 113), some (.int bh), some (.int (nI l)), some (.int ((nI j) + (nI m))), some (.int b), some (.int (nI m))]) (q := 136) rfl rfl rfl rfl rfl ?_
            refine ar_iconst (v := 1) (q := 137) rfl rfl rfl ?_
            refine ar_istore_n (j := 1) (ls' := [some (.ref 113), some (.int 1), some (.int (nI l)), some (.int ((nI j) + (nI m))), some (.int b), some (.int (nI m))]) (q := 138) rfl rfl rfl rfl rfl ?_
            refine ar_goto (t := 217) rfl rfl ?_
            refine ar_goto (t := 6) rfl rfl ?_
            exact am_Run.weak (ls' := _) (by exact ⟨rfl, ⟨rfl, ⟨rfl, ⟨rfl, trivial⟩⟩⟩⟩) h
          · have c_9 := Classical.not_not.mp c_9
            have h := hA c_9
            clear hA hB
            refine ar_iload_n (j := 3) (q := 130) rfl rfl rfl rfl ?_
            exact ar_iret rfl rfl h
theorem r_M_term_0 {d : Nat} (hd : 1 ≤ d) {R : am_R} {I : Nat → Nat → Int32} {L : Nat → Nat → Int64} {h9 : Int32} {w : Int32} (h : ((h9 = (-1 : Int32) → (((w < (I 113 0) → (R (some (.int (-4 : Int32))) (am_mk (am_no I 4) L, 0, 0))) ∧ (¬ w < (I 113 0) → (((w ≤ 1500 → ((((I 113 25) = 30 → (R (some (.int (-6 : Int32))) (am_mk (am_no I 6) L, 0, 0))) ∧ (¬ (I 113 25) = 30 → (am_meth d 197 [.ref 113] (am_mk I L, 0, 0) (am_ri (fun z_5 I_6 L_7 => ∀ I_8 : Nat → Nat → Int32, I_8 = va_up I_6 113 (upd (I_6 113) 24 0) → (((z_5 < 0 → (am_Run am_X0 (am_meth d) 196 R 85 [some (.ref 113), some (.int h9), some (.int w), none, some (.int (I_6 113 24)), some (.int 0)] [] (am_mk I_8 L_7, 0, 0))) ∧ (¬ z_5 < 0 → (R (some (.int ((-20 : Int32) - z_5))) (am_mk I_8 L_7, 0, 0)))))))))))) ∧ (¬ w ≤ 1500 → (R (some (.int (-6 : Int32))) (am_mk (am_no I 6) L, 0, 0))))))))) ∧ (¬ h9 = (-1 : Int32) → (((0 ≤ h9 ∧ h9 < I 113 10 → (((w < (I 113 0) → (R (some (.int (-4 : Int32))) (am_mk (am_no I 4) L, 0, 0))) ∧ (¬ w < (I 113 0) → (((w ≤ 1500 → ((((I 113 25) = 30 → (R (some (.int (-6 : Int32))) (am_mk (am_no I 6) L, 0, 0))) ∧ (¬ (I 113 25) = 30 → (am_meth d 197 [.ref 113] (am_mk I L, 0, 0) (am_ri (fun z_15 I_16 L_17 => ∀ I_18 : Nat → Nat → Int32, I_18 = va_up I_16 113 (upd (I_16 113) 24 0) → (((z_15 < 0 → (am_Run am_X0 (am_meth d) 196 R 85 [some (.ref 113), some (.int h9), some (.int w), none, some (.int (I_16 113 24)), some (.int 0)] [] (am_mk I_18 L_17, 0, 0))) ∧ (¬ z_15 < 0 → (R (some (.int ((-20 : Int32) - z_15))) (am_mk I_18 L_17, 0, 0)))))))))))) ∧ (¬ w ≤ 1500 → (R (some (.int (-6 : Int32))) (am_mk (am_no I 6) L, 0, 0))))))))) ∧ (¬ (0 ≤ h9 ∧ h9 < I 113 10) → (R (some (.int (-1 : Int32))) (am_mk (am_no I 1) L, 0, 0)))))))) : am_Run am_X0 (am_meth d) 196 R 0 [some (.ref 113), some (.int h9), some (.int w), none, none, none] [] (am_mk I L, 0, 0) := by
  refine ar_iload_n (j := 1) (q := 1) rfl rfl rfl rfl ?_
  refine ar_iconst (v := (-1 : Int32)) (q := 2) rfl rfl rfl ?_
  obtain ⟨hA, hB⟩ := h
  refine ar_br am_c_eq (t := 19) (q := 5) rfl rfl rfl (fun c_1 => ?_) (fun c_1 => ?_)
  · have h := hA c_1
    clear hA hB
    refine ar_iload_n (j := 2) (q := 20) rfl rfl rfl rfl ?_
    refine ar_aload_n (j := 0) (q := 21) rfl rfl rfl rfl ?_
    refine ar_getf (v := .int (I 113 0)) (q := 24) rfl rfl mk_113 rfl rfl ?_
    obtain ⟨hA, hB⟩ := h
    refine ar_br am_d_ge (t := 34) (q := 27) rfl rfl rfl (fun c_2 => ?_) (fun c_2 => ?_)
    · have h := hB c_2
      clear hA hB
      refine ar_iload_n (j := 2) (q := 35) rfl rfl rfl rfl ?_
      refine ar_sipush (v := 1500) (q := 38) rfl rfl rfl ?_
      obtain ⟨hA, hB⟩ := h
      refine ar_br am_d_gt (t := 50) (q := 41) rfl rfl rfl (fun c_3 => ?_) (fun c_3 => ?_)
      · have h := hB c_3
        clear hA hB
        refine ar_aload_n (j := 0) (q := 51) rfl rfl rfl rfl ?_
        refine ar_bipush (v := (-6 : Int32)) (q := 53) rfl rfl rfl ?_
        refine ar_invv (as := [.int (-6 : Int32)]) (rest := []) (b2 := (0, 0)) (b3 := (0, 0)) (q := 56) rfl rfl rfl rfl mk_113 rfl rfl rfl rfl rfl ?_
        refine ok_no (j := 6) (by omega) (by decide) (by decide) ?_
        show am_Run am_X0 (am_meth d) 196 R 56 [some (.ref 113), some (.int h9), some (.int w), none, none, none] [.int (-6 : Int32)] (am_mk (am_no I 6) L, 0, 0)
        exact ar_iret rfl rfl h
      · have c_3 := Classical.not_not.mp c_3
        have h := hA c_3
        clear hA hB
        refine ar_aload_n (j := 0) (q := 42) rfl rfl rfl rfl ?_
        refine ar_getf (v := .int (I 113 25)) (q := 45) rfl rfl mk_113 rfl rfl ?_
        refine ar_bipush (v := 30) (q := 47) rfl rfl rfl ?_
        obtain ⟨hA, hB⟩ := h
        refine ar_br am_c_ne (t := 57) (q := 50) rfl rfl rfl (fun c_4 => ?_) (fun c_4 => ?_)
        · have h := hB c_4
          clear hA hB
          refine ar_aload_n (j := 0) (q := 58) rfl rfl rfl rfl ?_
          refine ar_invv (as := []) (rest := []) (b2 := (0, 0)) (b3 := (0, 0)) (q := 61) rfl rfl rfl rfl mk_113 rfl rfl rfl rfl rfl ?_
          refine am_meth_mono d _ _ _ _ _ (fun v9 m9 h9 => ?_) h
          obtain ⟨z_5, I_6, L_7, rfl, rfl, h⟩ := h9
          show am_Run am_X0 (am_meth d) 196 R 61 [some (.ref 113), some (.int h9), some (.int w), none, none, none] [.int z_5] (am_mk I_6 L_7, 0, 0)
          refine ar_istore_n (j := 3) (ls' := [some (.ref 113), some (.int h9), some (.int w), some (.int z_5), none, none]) (q := 62) rfl rfl rfl rfl rfl ?_
          refine ar_aload_n (j := 0) (q := 63) rfl rfl rfl rfl ?_
          refine ar_getf (v := .int (I_6 113 24)) (q := 66) rfl rfl mk_113 rfl rfl ?_
          refine ar_istore (ls' := [some (.ref 113), some (.int h9), some (.int w), some (.int z_5), some (.int (I_6 113 24)), none]) (q := 68) rfl rfl rfl rfl ?_
          refine ar_aload_n (j := 0) (q := 69) rfl rfl rfl rfl ?_
          refine ar_iconst (v := 0) (q := 70) rfl rfl rfl ?_
          obtain ⟨I_8, hI_9⟩ : ∃ z : Nat → Nat → Int32, z = va_up I_6 113 (upd (I_6 113) 24 0) := ⟨_, rfl⟩
          have h := h I_8 hI_9
          refine ar_putf (hp2 := am_mk I_8 L_7) (q := 73) rfl rfl mk_113 rfl (by rw [hI_9]; exact mk_p113_24) rfl ?_
          refine ar_iload_n (j := 3) (q := 74) rfl rfl rfl rfl ?_
          obtain ⟨hA, hB⟩ := h
          refine ar_b0 am_c_lt (t := 82) (q := 77) rfl rfl rfl (fun c_10 => ?_) (fun c_10 => ?_)
          · have h := hA c_10
            clear hA hB
            refine ar_iconst (v := 0) (q := 83) rfl rfl rfl ?_
            refine ar_istore (ls' := [some (.ref 113), some (.int h9), some (.int w), some (.int z_5), some (.int (I_6 113 24)), some (.int 0)]) (q := 85) rfl rfl rfl rfl ?_
            exact am_Run.weak (ls' := _) (by exact ⟨rfl, ⟨rfl, ⟨rfl, ⟨rfl, ⟨rfl, trivial⟩⟩⟩⟩⟩) h
          · have h := hB c_10
            clear hA hB
            refine ar_bipush (v := (-20 : Int32)) (q := 79) rfl rfl rfl ?_
            refine ar_iload_n (j := 3) (q := 80) rfl rfl rfl rfl ?_
            refine ar_ib (i := .isub) (z := (-20 : Int32) - z_5) (q := 81) rfl rfl rfl rfl rfl ?_
            exact ar_iret rfl rfl h
        · have c_4 := Classical.not_not.mp c_4
          have h := hA c_4
          clear hA hB
          refine ar_aload_n (j := 0) (q := 51) rfl rfl rfl rfl ?_
          refine ar_bipush (v := (-6 : Int32)) (q := 53) rfl rfl rfl ?_
          refine ar_invv (as := [.int (-6 : Int32)]) (rest := []) (b2 := (0, 0)) (b3 := (0, 0)) (q := 56) rfl rfl rfl rfl mk_113 rfl rfl rfl rfl rfl ?_
          refine ok_no (j := 6) (by omega) (by decide) (by decide) ?_
          show am_Run am_X0 (am_meth d) 196 R 56 [some (.ref 113), some (.int h9), some (.int w), none, none, none] [.int (-6 : Int32)] (am_mk (am_no I 6) L, 0, 0)
          exact ar_iret rfl rfl h
    · have c_2 := Classical.not_not.mp c_2
      have h := hA c_2
      clear hA hB
      refine ar_aload_n (j := 0) (q := 28) rfl rfl rfl rfl ?_
      refine ar_bipush (v := (-4 : Int32)) (q := 30) rfl rfl rfl ?_
      refine ar_invv (as := [.int (-4 : Int32)]) (rest := []) (b2 := (0, 0)) (b3 := (0, 0)) (q := 33) rfl rfl rfl rfl mk_113 rfl rfl rfl rfl rfl ?_
      refine ok_no (j := 4) (by omega) (by decide) (by decide) ?_
      show am_Run am_X0 (am_meth d) 196 R 33 [some (.ref 113), some (.int h9), some (.int w), none, none, none] [.int (-4 : Int32)] (am_mk (am_no I 4) L, 0, 0)
      exact ar_iret rfl rfl h
  · have h := hB c_1
    clear hA hB
    refine ar_aload_n (j := 0) (q := 6) rfl rfl rfl rfl ?_
    refine ar_iload_n (j := 1) (q := 7) rfl rfl rfl rfl ?_
    refine ar_invv (as := [.int h9]) (rest := []) (b2 := (0, 0)) (b3 := (0, 0)) (q := 10) rfl rfl rfl rfl mk_113 rfl rfl rfl rfl rfl ?_
    obtain ⟨hA, hB⟩ := h
    refine ok_M_isHouse (by omega)  (fun c_11 => ?_) (fun c_11 => ?_)
    · have h := hA c_11
      clear hA hB
      show am_Run am_X0 (am_meth d) 196 R 10 [some (.ref 113), some (.int h9), some (.int w), none, none, none] [.int 1] (am_mk I L, 0, 0)
      refine ar_b0 am_c_ne (t := 19) (q := 13) rfl rfl rfl (fun _ => ?_) (fun c9 => absurd (by decide) c9)
      refine ar_iload_n (j := 2) (q := 20) rfl rfl rfl rfl ?_
      refine ar_aload_n (j := 0) (q := 21) rfl rfl rfl rfl ?_
      refine ar_getf (v := .int (I 113 0)) (q := 24) rfl rfl mk_113 rfl rfl ?_
      obtain ⟨hA, hB⟩ := h
      refine ar_br am_d_ge (t := 34) (q := 27) rfl rfl rfl (fun c_12 => ?_) (fun c_12 => ?_)
      · have h := hB c_12
        clear hA hB
        refine ar_iload_n (j := 2) (q := 35) rfl rfl rfl rfl ?_
        refine ar_sipush (v := 1500) (q := 38) rfl rfl rfl ?_
        obtain ⟨hA, hB⟩ := h
        refine ar_br am_d_gt (t := 50) (q := 41) rfl rfl rfl (fun c_13 => ?_) (fun c_13 => ?_)
        · have h := hB c_13
          clear hA hB
          refine ar_aload_n (j := 0) (q := 51) rfl rfl rfl rfl ?_
          refine ar_bipush (v := (-6 : Int32)) (q := 53) rfl rfl rfl ?_
          refine ar_invv (as := [.int (-6 : Int32)]) (rest := []) (b2 := (0, 0)) (b3 := (0, 0)) (q := 56) rfl rfl rfl rfl mk_113 rfl rfl rfl rfl rfl ?_
          refine ok_no (j := 6) (by omega) (by decide) (by decide) ?_
          show am_Run am_X0 (am_meth d) 196 R 56 [some (.ref 113), some (.int h9), some (.int w), none, none, none] [.int (-6 : Int32)] (am_mk (am_no I 6) L, 0, 0)
          exact ar_iret rfl rfl h
        · have c_13 := Classical.not_not.mp c_13
          have h := hA c_13
          clear hA hB
          refine ar_aload_n (j := 0) (q := 42) rfl rfl rfl rfl ?_
          refine ar_getf (v := .int (I 113 25)) (q := 45) rfl rfl mk_113 rfl rfl ?_
          refine ar_bipush (v := 30) (q := 47) rfl rfl rfl ?_
          obtain ⟨hA, hB⟩ := h
          refine ar_br am_c_ne (t := 57) (q := 50) rfl rfl rfl (fun c_14 => ?_) (fun c_14 => ?_)
          · have h := hB c_14
            clear hA hB
            refine ar_aload_n (j := 0) (q := 58) rfl rfl rfl rfl ?_
            refine ar_invv (as := []) (rest := []) (b2 := (0, 0)) (b3 := (0, 0)) (q := 61) rfl rfl rfl rfl mk_113 rfl rfl rfl rfl rfl ?_
            refine am_meth_mono d _ _ _ _ _ (fun v9 m9 h9 => ?_) h
            obtain ⟨z_15, I_16, L_17, rfl, rfl, h⟩ := h9
            show am_Run am_X0 (am_meth d) 196 R 61 [some (.ref 113), some (.int h9), some (.int w), none, none, none] [.int z_15] (am_mk I_16 L_17, 0, 0)
            refine ar_istore_n (j := 3) (ls' := [some (.ref 113), some (.int h9), some (.int w), some (.int z_15), none, none]) (q := 62) rfl rfl rfl rfl rfl ?_
            refine ar_aload_n (j := 0) (q := 63) rfl rfl rfl rfl ?_
            refine ar_getf (v := .int (I_16 113 24)) (q := 66) rfl rfl mk_113 rfl rfl ?_
            refine ar_istore (ls' := [some (.ref 113), some (.int h9), some (.int w), some (.int z_15), some (.int (I_16 113 24)), none]) (q := 68) rfl rfl rfl rfl ?_
            refine ar_aload_n (j := 0) (q := 69) rfl rfl rfl rfl ?_
            refine ar_iconst (v := 0) (q := 70) rfl rfl rfl ?_
            obtain ⟨I_18, hI_19⟩ : ∃ z : Nat → Nat → Int32, z = va_up I_16 113 (upd (I_16 113) 24 0) := ⟨_, rfl⟩
            have h := h I_18 hI_19
            refine ar_putf (hp2 := am_mk I_18 L_17) (q := 73) rfl rfl mk_113 rfl (by rw [hI_19]; exact mk_p113_24) rfl ?_
            refine ar_iload_n (j := 3) (q := 74) rfl rfl rfl rfl ?_
            obtain ⟨hA, hB⟩ := h
            refine ar_b0 am_c_lt (t := 82) (q := 77) rfl rfl rfl (fun c_20 => ?_) (fun c_20 => ?_)
            · have h := hA c_20
              clear hA hB
              refine ar_iconst (v := 0) (q := 83) rfl rfl rfl ?_
              refine ar_istore (ls' := [some (.ref 113), some (.int h9), some (.int w), some (.int z_15), some (.int (I_16 113 24)), some (.int 0)]) (q := 85) rfl rfl rfl rfl ?_
              exact am_Run.weak (ls' := _) (by exact ⟨rfl, ⟨rfl, ⟨rfl, ⟨rfl, ⟨rfl, trivial⟩⟩⟩⟩⟩) h
            · have h := hB c_20
              clear hA hB
              refine ar_bipush (v := (-20 : Int32)) (q := 79) rfl rfl rfl ?_
              refine ar_iload_n (j := 3) (q := 80) rfl rfl rfl rfl ?_
              refine ar_ib (i := .isub) (z := (-20 : Int32) - z_15) (q := 81) rfl rfl rfl rfl rfl ?_
              exact ar_iret rfl rfl h
          · have c_14 := Classical.not_not.mp c_14
            have h := hA c_14
            clear hA hB
            refine ar_aload_n (j := 0) (q := 51) rfl rfl rfl rfl ?_
            refine ar_bipush (v := (-6 : Int32)) (q := 53) rfl rfl rfl ?_
            refine ar_invv (as := [.int (-6 : Int32)]) (rest := []) (b2 := (0, 0)) (b3 := (0, 0)) (q := 56) rfl rfl rfl rfl mk_113 rfl rfl rfl rfl rfl ?_
            refine ok_no (j := 6) (by omega) (by decide) (by decide) ?_
            show am_Run am_X0 (am_meth d) 196 R 56 [some (.ref 113), some (.int h9), some (.int w), none, none, none] [.int (-6 : Int32)] (am_mk (am_no I 6) L, 0, 0)
            exact ar_iret rfl rfl h
      · have c_12 := Classical.not_not.mp c_12
        have h := hA c_12
        clear hA hB
        refine ar_aload_n (j := 0) (q := 28) rfl rfl rfl rfl ?_
        refine ar_bipush (v := (-4 : Int32)) (q := 30) rfl rfl rfl ?_
        refine ar_invv (as := [.int (-4 : Int32)]) (rest := []) (b2 := (0, 0)) (b3 := (0, 0)) (q := 33) rfl rfl rfl rfl mk_113 rfl rfl rfl rfl rfl ?_
        refine ok_no (j := 4) (by omega) (by decide) (by decide) ?_
        show am_Run am_X0 (am_meth d) 196 R 33 [some (.ref 113), some (.int h9), some (.int w), none, none, none] [.int (-4 : Int32)] (am_mk (am_no I 4) L, 0, 0)
        exact ar_iret rfl rfl h
    · have h := hB c_11
      clear hA hB
      show am_Run am_X0 (am_meth d) 196 R 10 [some (.ref 113), some (.int h9), some (.int w), none, none, none] [.int 0] (am_mk I L, 0, 0)
      refine ar_b0 am_c_ne (t := 19) (q := 13) rfl rfl rfl (fun c9 => absurd (by decide) c9) (fun _ => ?_)
      refine ar_aload_n (j := 0) (q := 14) rfl rfl rfl rfl ?_
      refine ar_iconst (v := (-1 : Int32)) (q := 15) rfl rfl rfl ?_
      refine ar_invv (as := [.int (-1 : Int32)]) (rest := []) (b2 := (0, 0)) (b3 := (0, 0)) (q := 18) rfl rfl rfl rfl mk_113 rfl rfl rfl rfl rfl ?_
      refine ok_no (j := 1) (by omega) (by decide) (by decide) ?_
      show am_Run am_X0 (am_meth d) 196 R 18 [some (.ref 113), some (.int h9), some (.int w), none, none, none] [.int (-1 : Int32)] (am_mk (am_no I 1) L, 0, 0)
      exact ar_iret rfl rfl h
theorem r_M_term_85 {d : Nat} {R : am_R} {I : Nat → Nat → Int32} {L : Nat → Nat → Int64} {h9 : Int32} {w : Int32} {n : Nat} {j : Nat} (h : (((nI j) < (nI n) → (j < 60 ∧ (∃ j_3 : Nat, j_3 < 1800 ∧ ((I 113 25) * 60) + (nI j) = nI j_3 ∧ (∀ I_6 : Nat → Nat → Int32, I_6 = va_up I 137 (upd (I 137) j_3 (vp_nar .byte (I 133 j))) → (am_Run am_X0 (am_meth d) 196 R 85 [some (.ref 113), some (.int h9), some (.int w), none, some (.int (nI n)), some (.int (nI (j + 1)))] [] (am_mk I_6 L, 0, 0)))))) ∧ (¬ (nI j) < (nI n) → (∃ j_8 : Nat, j_8 < 30 ∧ I 113 25 = nI j_8 ∧ (∀ I_11 : Nat → Nat → Int32, I_11 = va_up I 134 (upd (I 134) j_8 h9) → (∃ j_13 : Nat, j_13 < 30 ∧ I_11 113 25 = nI j_13 ∧ (∀ I_16 : Nat → Nat → Int32, I_16 = va_up I_11 135 (upd (I_11 135) j_13 w) → (∃ j_18 : Nat, j_18 < 30 ∧ I_16 113 25 = nI j_18 ∧ (∀ I_21 : Nat → Nat → Int32, I_21 = va_up I_16 136 (upd (I_16 136) j_18 (nI n)) → (∀ I_23 : Nat → Nat → Int32, I_23 = va_up I_21 113 (upd (I_21 113) 25 ((I_21 113 25) + 1)) → (R (some (.int (I_23 113 25))) (am_mk I_23 L, 0, 0)))))))))))) : am_Run am_X0 (am_meth d) 196 R 85 [some (.ref 113), some (.int h9), some (.int w), none, some (.int (nI n)), some (.int (nI j))] [] (am_mk I L, 0, 0) := by
  refine ar_iload (q := 87) rfl rfl rfl ?_
  refine ar_iload (q := 89) rfl rfl rfl ?_
  obtain ⟨hA, hB⟩ := h
  refine ar_br am_d_ge (t := 120) (q := 92) rfl rfl rfl (fun c_1 => ?_) (fun c_1 => ?_)
  · have h := hB c_1
    clear hA hB
    refine ar_aload_n (j := 0) (q := 121) rfl rfl rfl rfl ?_
    refine ar_getf (v := .ref 134) (q := 124) rfl rfl mk_113 rfl rfl ?_
    refine ar_aload_n (j := 0) (q := 125) rfl rfl rfl rfl ?_
    refine ar_getf (v := .int (I 113 25)) (q := 128) rfl rfl mk_113 rfl rfl ?_
    refine ar_iload_n (j := 1) (q := 129) rfl rfl rfl rfl ?_
    obtain ⟨j_8, hx_9, hi_10, h⟩ := h
    obtain ⟨I_11, hI_12⟩ : ∃ z : Nat → Nat → Int32, z = va_up I 134 (upd (I 134) j_8 h9) := ⟨_, rfl⟩
    have h := h I_11 hI_12
    refine ar_iast (hp2 := am_mk I_11 L) (q := 130) rfl mk_134 (am_inE hi_10 hx_9 (by decide)) (by rw [am_clT hi_10 hx_9 (by decide), hI_12]; exact mk_s134) rfl ?_
    refine ar_aload_n (j := 0) (q := 131) rfl rfl rfl rfl ?_
    refine ar_getf (v := .ref 135) (q := 134) rfl rfl mk_113 rfl rfl ?_
    refine ar_aload_n (j := 0) (q := 135) rfl rfl rfl rfl ?_
    refine ar_getf (v := .int (I_11 113 25)) (q := 138) rfl rfl mk_113 rfl rfl ?_
    refine ar_iload_n (j := 2) (q := 139) rfl rfl rfl rfl ?_
    obtain ⟨j_13, hx_14, hi_15, h⟩ := h
    obtain ⟨I_16, hI_17⟩ : ∃ z : Nat → Nat → Int32, z = va_up I_11 135 (upd (I_11 135) j_13 w) := ⟨_, rfl⟩
    have h := h I_16 hI_17
    refine ar_iast (hp2 := am_mk I_16 L) (q := 140) rfl mk_135 (am_inE hi_15 hx_14 (by decide)) (by rw [am_clT hi_15 hx_14 (by decide), hI_17]; exact mk_s135) rfl ?_
    refine ar_aload_n (j := 0) (q := 141) rfl rfl rfl rfl ?_
    refine ar_getf (v := .ref 136) (q := 144) rfl rfl mk_113 rfl rfl ?_
    refine ar_aload_n (j := 0) (q := 145) rfl rfl rfl rfl ?_
    refine ar_getf (v := .int (I_16 113 25)) (q := 148) rfl rfl mk_113 rfl rfl ?_
    refine ar_iload (q := 150) rfl rfl rfl ?_
    obtain ⟨j_18, hx_19, hi_20, h⟩ := h
    obtain ⟨I_21, hI_22⟩ : ∃ z : Nat → Nat → Int32, z = va_up I_16 136 (upd (I_16 136) j_18 (nI n)) := ⟨_, rfl⟩
    have h := h I_21 hI_22
    refine ar_iast (hp2 := am_mk I_21 L) (q := 151) rfl mk_136 (am_inE hi_20 hx_19 (by decide)) (by rw [am_clT hi_20 hx_19 (by decide), hI_22]; exact mk_s136) rfl ?_
    refine ar_aload_n (j := 0) (q := 152) rfl rfl rfl rfl ?_
    refine ar_st (i := .dup) (n := 1) (st' := [.ref 113, .ref 113]) (q := 153) rfl rfl rfl rfl ?_
    refine ar_getf (v := .int (I_21 113 25)) (q := 156) rfl rfl mk_113 rfl rfl ?_
    refine ar_iconst (v := 1) (q := 157) rfl rfl rfl ?_
    refine ar_ib (i := .iadd) (z := (I_21 113 25) + 1) (q := 158) rfl rfl rfl rfl rfl ?_
    obtain ⟨I_23, hI_24⟩ : ∃ z : Nat → Nat → Int32, z = va_up I_21 113 (upd (I_21 113) 25 ((I_21 113 25) + 1)) := ⟨_, rfl⟩
    have h := h I_23 hI_24
    refine ar_putf (hp2 := am_mk I_23 L) (q := 161) rfl rfl mk_113 rfl (by rw [hI_24]; exact mk_p113_25) rfl ?_
    refine ar_aload_n (j := 0) (q := 162) rfl rfl rfl rfl ?_
    refine ar_getf (v := .int (I_23 113 25)) (q := 165) rfl rfl mk_113 rfl rfl ?_
    exact ar_iret rfl rfl h
  · have c_1 := Classical.not_not.mp c_1
    have h := hA c_1
    clear hA hB
    refine ar_aload_n (j := 0) (q := 93) rfl rfl rfl rfl ?_
    refine ar_getf (v := .ref 137) (q := 96) rfl rfl mk_113 rfl rfl ?_
    refine ar_aload_n (j := 0) (q := 97) rfl rfl rfl rfl ?_
    refine ar_getf (v := .int (I 113 25)) (q := 100) rfl rfl mk_113 rfl rfl ?_
    refine ar_bipush (v := 60) (q := 102) rfl rfl rfl ?_
    refine ar_ib (i := .imul) (z := (I 113 25) * 60) (q := 103) rfl rfl rfl rfl rfl ?_
    refine ar_iload (q := 105) rfl rfl rfl ?_
    refine ar_ib (i := .iadd) (z := ((I 113 25) * 60) + (nI j)) (q := 106) rfl rfl rfl rfl rfl ?_
    refine ar_aload_n (j := 0) (q := 107) rfl rfl rfl rfl ?_
    refine ar_getf (v := .ref 133) (q := 110) rfl rfl mk_113 rfl rfl ?_
    refine ar_iload (q := 112) rfl rfl rfl ?_
    obtain ⟨hx_2, h⟩ := h
    refine ar_bald (v := I 133 j) (q := 113) rfl (Or.inl rfl) mk_133 (am_inE rfl hx_2 (by decide)) (am_clE (n := 60) rfl hx_2 (by decide)) rfl ?_
    obtain ⟨j_3, hx_4, hi_5, h⟩ := h
    obtain ⟨I_6, hI_7⟩ : ∃ z : Nat → Nat → Int32, z = va_up I 137 (upd (I 137) j_3 (vp_nar .byte (I 133 j))) := ⟨_, rfl⟩
    have h := h I_6 hI_7
    refine ar_bast1 (hp2 := am_mk I_6 L) (q := 114) rfl mk_137 (am_inE hi_5 hx_4 (by decide)) (by rw [am_clT hi_5 hx_4 (by decide), hI_7]; exact mk_s137) rfl ?_
    refine ar_iinc (v := nI (j + 1)) (ls' := [some (.ref 113), some (.int h9), some (.int w), none, some (.int (nI n)), some (.int (nI (j + 1)))]) (q := 117) rfl rfl rfl (nI_1 _) rfl rfl ?_
    refine ar_goto (t := 85) rfl rfl ?_
    exact am_Run.weak (ls' := _) (by exact ⟨rfl, ⟨rfl, ⟨rfl, ⟨rfl, ⟨rfl, trivial⟩⟩⟩⟩⟩) h
