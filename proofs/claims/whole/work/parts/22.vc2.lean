theorem r_H_days_0 {d : Nat} (hd : 1 ≤ d) {R : am_R} {I : Nat → Nat → Int32} {L : Nat → Nat → Int64} {n : Int32} (h : ((n < 1 → (R (some (.int (-4 : Int32))) (am_mk (am_rf I 4) L, 0, 0))) ∧ (¬ n < 1 → (((n ≤ (1500 - (I 66 0)) → (∀ I_3 : Nat → Nat → Int32, I_3 = va_up I 66 (upd (I 66) 0 ((I 66 0) + n)) → (R (some (.int (I_3 66 0))) (am_mk I_3 L, 0, 0)))) ∧ (¬ n ≤ (1500 - (I 66 0)) → (R (some (.int (-6 : Int32))) (am_mk (am_rf I 6) L, 0, 0)))))))) : am_Run am_X0 (am_meth d) 1 R 0 [some (.ref 0), some (.int n)] [] (am_mk I L, 0, 0) := by
  refine ar_iload_n (j := 1) (q := 1) rfl rfl rfl rfl ?_
  refine ar_iconst (v := 1) (q := 2) rfl rfl rfl ?_
  obtain ⟨hA, hB⟩ := h
  refine ar_br am_d_ge (t := 12) (q := 5) rfl rfl rfl (fun c_1 => ?_) (fun c_1 => ?_)
  · have h := hB c_1
    clear hA hB
    refine ar_iload_n (j := 1) (q := 13) rfl rfl rfl rfl ?_
    refine ar_sipush (v := 1500) (q := 16) rfl rfl rfl ?_
    refine ar_aload_n (j := 0) (q := 17) rfl rfl rfl rfl ?_
    refine ar_getf (v := .ref 66) (q := 20) rfl rfl mk_0 rfl rfl ?_
    refine ar_getf (v := .int (I 66 0)) (q := 23) rfl rfl mk_66 rfl rfl ?_
    refine ar_ib (i := .isub) (z := 1500 - (I 66 0)) (q := 24) rfl rfl rfl rfl rfl ?_
    obtain ⟨hA, hB⟩ := h
    refine ar_br am_c_le (t := 34) (q := 27) rfl rfl rfl (fun c_2 => ?_) (fun c_2 => ?_)
    · have h := hA c_2
      clear hA hB
      refine ar_aload_n (j := 0) (q := 35) rfl rfl rfl rfl ?_
      refine ar_getf (v := .ref 66) (q := 38) rfl rfl mk_0 rfl rfl ?_
      refine ar_st (i := .dup) (n := 1) (st' := [.ref 66, .ref 66]) (q := 39) rfl rfl rfl rfl ?_
      refine ar_getf (v := .int (I 66 0)) (q := 42) rfl rfl mk_66 rfl rfl ?_
      refine ar_iload_n (j := 1) (q := 43) rfl rfl rfl rfl ?_
      refine ar_ib (i := .iadd) (z := (I 66 0) + n) (q := 44) rfl rfl rfl rfl rfl ?_
      obtain ⟨I_3, hI_4⟩ : ∃ z : Nat → Nat → Int32, z = va_up I 66 (upd (I 66) 0 ((I 66 0) + n)) := ⟨_, rfl⟩
      have h := h I_3 hI_4
      refine ar_putf (hp2 := am_mk I_3 L) (q := 47) rfl rfl mk_66 rfl (by rw [hI_4]; exact mk_p66_0) rfl ?_
      refine ar_aload_n (j := 0) (q := 48) rfl rfl rfl rfl ?_
      refine ar_getf (v := .ref 66) (q := 51) rfl rfl mk_0 rfl rfl ?_
      refine ar_getf (v := .int (I_3 66 0)) (q := 54) rfl rfl mk_66 rfl rfl ?_
      exact ar_iret rfl rfl h
    · have h := hB c_2
      clear hA hB
      refine ar_aload_n (j := 0) (q := 28) rfl rfl rfl rfl ?_
      refine ar_bipush (v := (-6 : Int32)) (q := 30) rfl rfl rfl ?_
      refine ar_invv (as := [.int (-6 : Int32)]) (rest := []) (b2 := (0, 0)) (b3 := (0, 0)) (q := 33) rfl rfl rfl rfl mk_0 rfl rfl rfl rfl rfl ?_
      refine ok_refuse (j := 6) (by omega) (by decide) (by decide) ?_
      show am_Run am_X0 (am_meth d) 1 R 33 [some (.ref 0), some (.int n)] [.int (-6 : Int32)] (am_mk (am_rf I 6) L, 0, 0)
      exact ar_iret rfl rfl h
  · have c_1 := Classical.not_not.mp c_1
    have h := hA c_1
    clear hA hB
    refine ar_aload_n (j := 0) (q := 6) rfl rfl rfl rfl ?_
    refine ar_bipush (v := (-4 : Int32)) (q := 8) rfl rfl rfl ?_
    refine ar_invv (as := [.int (-4 : Int32)]) (rest := []) (b2 := (0, 0)) (b3 := (0, 0)) (q := 11) rfl rfl rfl rfl mk_0 rfl rfl rfl rfl rfl ?_
    refine ok_refuse (j := 4) (by omega) (by decide) (by decide) ?_
    show am_Run am_X0 (am_meth d) 1 R 11 [some (.ref 0), some (.int n)] [.int (-4 : Int32)] (am_mk (am_rf I 4) L, 0, 0)
    exact ar_iret rfl rfl h
theorem r_H_town_0 {d : Nat} (hd : 1 ≤ d) {R : am_R} {I : Nat → Nat → Int32} {L : Nat → Nat → Int64} {t : Int32} {l : Int32} (h : ((0 ≤ t ∧ t < 10 → (((0 ≤ l ∧ l < 5 → (∃ j_3 : Nat, j_3 < 10 ∧ t = nI j_3 ∧ (∀ I_6 : Nat → Nat → Int32, I_6 = va_up I 3 (upd (I 3) j_3 l) → (R (some (.int (I 3 j_3))) (am_mk I_6 L, 0, 0))))) ∧ (¬ (0 ≤ l ∧ l < 5) → (R (some (.int (-1 : Int32))) (am_mk (am_rf I 1) L, 0, 0)))))) ∧ (¬ (0 ≤ t ∧ t < 10) → (R (some (.int (-1 : Int32))) (am_mk (am_rf I 1) L, 0, 0))))) : am_Run am_X0 (am_meth d) 3 R 0 [some (.ref 0), some (.int t), some (.int l), none] [] (am_mk I L, 0, 0) := by
  refine ar_aload_n (j := 0) (q := 1) rfl rfl rfl rfl ?_
  refine ar_getf (v := .ref 2) (q := 4) rfl rfl mk_0 rfl rfl ?_
  refine ar_iload_n (j := 1) (q := 5) rfl rfl rfl rfl ?_
  refine ar_invv (as := [.int t]) (rest := []) (b2 := (0, 0)) (b3 := (0, 0)) (q := 8) rfl rfl rfl rfl mk_2 rfl rfl rfl rfl rfl ?_
  obtain ⟨hA, hB⟩ := h
  refine ok_To_hasTown (by omega)  (fun c_1 => ?_) (fun c_1 => ?_)
  · have h := hA c_1
    clear hA hB
    show am_Run am_X0 (am_meth d) 3 R 8 [some (.ref 0), some (.int t), some (.int l), none] [.int 1] (am_mk I L, 0, 0)
    refine ar_b0 am_c_eq (t := 22) (q := 11) rfl rfl rfl (fun c9 => absurd c9 (by decide)) (fun _ => ?_)
    refine ar_aload_n (j := 0) (q := 12) rfl rfl rfl rfl ?_
    refine ar_getf (v := .ref 2) (q := 15) rfl rfl mk_0 rfl rfl ?_
    refine ar_iload_n (j := 2) (q := 16) rfl rfl rfl rfl ?_
    refine ar_invv (as := [.int l]) (rest := []) (b2 := (0, 0)) (b3 := (0, 0)) (q := 19) rfl rfl rfl rfl mk_2 rfl rfl rfl rfl rfl ?_
    obtain ⟨hA, hB⟩ := h
    refine ok_To_hasLand (by omega)  (fun c_2 => ?_) (fun c_2 => ?_)
    · have h := hA c_2
      clear hA hB
      show am_Run am_X0 (am_meth d) 3 R 19 [some (.ref 0), some (.int t), some (.int l), none] [.int 1] (am_mk I L, 0, 0)
      refine ar_b0 am_c_ne (t := 28) (q := 22) rfl rfl rfl (fun _ => ?_) (fun c9 => absurd (by decide) c9)
      refine ar_aload_n (j := 0) (q := 29) rfl rfl rfl rfl ?_
      refine ar_getf (v := .ref 2) (q := 32) rfl rfl mk_0 rfl rfl ?_
      refine ar_getf (v := .ref 3) (q := 35) rfl rfl mk_2 rfl rfl ?_
      refine ar_iload_n (j := 1) (q := 36) rfl rfl rfl rfl ?_
      obtain ⟨j_3, hx_4, hi_5, h⟩ := h
      refine ar_iald (v := I 3 j_3) (q := 37) rfl mk_3 (am_inE hi_5 hx_4 (by decide)) (am_clE hi_5 hx_4 (by decide)) rfl ?_
      refine ar_istore_n (j := 3) (ls' := [some (.ref 0), some (.int t), some (.int l), some (.int (I 3 j_3))]) (q := 38) rfl rfl rfl rfl rfl ?_
      refine ar_aload_n (j := 0) (q := 39) rfl rfl rfl rfl ?_
      refine ar_getf (v := .ref 2) (q := 42) rfl rfl mk_0 rfl rfl ?_
      refine ar_getf (v := .ref 3) (q := 45) rfl rfl mk_2 rfl rfl ?_
      refine ar_iload_n (j := 1) (q := 46) rfl rfl rfl rfl ?_
      refine ar_iload_n (j := 2) (q := 47) rfl rfl rfl rfl ?_
      obtain ⟨I_6, hI_7⟩ : ∃ z : Nat → Nat → Int32, z = va_up I 3 (upd (I 3) j_3 l) := ⟨_, rfl⟩
      have h := h I_6 hI_7
      refine ar_iast (hp2 := am_mk I_6 L) (q := 48) rfl mk_3 (am_inE hi_5 hx_4 (by decide)) (by rw [am_clT hi_5 hx_4 (by decide), hI_7]; exact mk_s3) rfl ?_
      refine ar_iload_n (j := 3) (q := 49) rfl rfl rfl rfl ?_
      exact ar_iret rfl rfl h
    · have h := hB c_2
      clear hA hB
      show am_Run am_X0 (am_meth d) 3 R 19 [some (.ref 0), some (.int t), some (.int l), none] [.int 0] (am_mk I L, 0, 0)
      refine ar_b0 am_c_ne (t := 28) (q := 22) rfl rfl rfl (fun c9 => absurd (by decide) c9) (fun _ => ?_)
      refine ar_aload_n (j := 0) (q := 23) rfl rfl rfl rfl ?_
      refine ar_iconst (v := (-1 : Int32)) (q := 24) rfl rfl rfl ?_
      refine ar_invv (as := [.int (-1 : Int32)]) (rest := []) (b2 := (0, 0)) (b3 := (0, 0)) (q := 27) rfl rfl rfl rfl mk_0 rfl rfl rfl rfl rfl ?_
      refine ok_refuse (j := 1) (by omega) (by decide) (by decide) ?_
      show am_Run am_X0 (am_meth d) 3 R 27 [some (.ref 0), some (.int t), some (.int l), none] [.int (-1 : Int32)] (am_mk (am_rf I 1) L, 0, 0)
      exact ar_iret rfl rfl h
  · have h := hB c_1
    clear hA hB
    show am_Run am_X0 (am_meth d) 3 R 8 [some (.ref 0), some (.int t), some (.int l), none] [.int 0] (am_mk I L, 0, 0)
    refine ar_b0 am_c_eq (t := 22) (q := 11) rfl rfl rfl (fun _ => ?_) (fun c9 => absurd (by decide) c9)
    refine ar_aload_n (j := 0) (q := 23) rfl rfl rfl rfl ?_
    refine ar_iconst (v := (-1 : Int32)) (q := 24) rfl rfl rfl ?_
    refine ar_invv (as := [.int (-1 : Int32)]) (rest := []) (b2 := (0, 0)) (b3 := (0, 0)) (q := 27) rfl rfl rfl rfl mk_0 rfl rfl rfl rfl rfl ?_
    refine ok_refuse (j := 1) (by omega) (by decide) (by decide) ?_
    show am_Run am_X0 (am_meth d) 3 R 27 [some (.ref 0), some (.int t), some (.int l), none] [.int (-1 : Int32)] (am_mk (am_rf I 1) L, 0, 0)
    exact ar_iret rfl rfl h
theorem r_H_way_0 {d : Nat} (hd : 1 ≤ d) {R : am_R} {I : Nat → Nat → Int32} {L : Nat → Nat → Int64} {a : Int32} {b : Int32} {x : Int32} (h : ((0 ≤ a ∧ a < 10 → (((0 ≤ b ∧ b < 10 → (((a = b → (R (some (.int (-1 : Int32))) (am_mk (am_rf I 1) L, 0, 0))) ∧ (¬ a = b → (((x < 1 → (R (some (.int (-4 : Int32))) (am_mk (am_rf I 4) L, 0, 0))) ∧ ((¬ x < 1 ∧ 240 < x) → (R (some (.int (-6 : Int32))) (am_mk (am_rf I 6) L, 0, 0))) ∧ ((¬ x < 1 ∧ ¬ 240 < x) → (∃ j_5 : Nat, j_5 < 10 ∧ a = nI j_5 ∧ (∃ j_8 : Nat, j_8 < 10 ∧ b = nI j_8 ∧ (∀ I_11 : Nat → Nat → Int32, I_11 = va_up I (6 + j_5) (upd (I (6 + j_5)) j_8 x) → (∀ I_13 : Nat → Nat → Int32, I_13 = va_up I_11 (6 + j_8) (upd (I_11 (6 + j_8)) j_5 x) → (R (some (.int (I (6 + j_5) j_8))) (am_mk I_13 L, 0, 0))))))))))))) ∧ (¬ (0 ≤ b ∧ b < 10) → (R (some (.int (-1 : Int32))) (am_mk (am_rf I 1) L, 0, 0)))))) ∧ (¬ (0 ≤ a ∧ a < 10) → (R (some (.int (-1 : Int32))) (am_mk (am_rf I 1) L, 0, 0))))) : am_Run am_X0 (am_meth d) 4 R 0 [some (.ref 0), some (.int a), some (.int b), some (.int x), none, none] [] (am_mk I L, 0, 0) := by
  refine ar_aload_n (j := 0) (q := 1) rfl rfl rfl rfl ?_
  refine ar_getf (v := .ref 2) (q := 4) rfl rfl mk_0 rfl rfl ?_
  refine ar_iload_n (j := 1) (q := 5) rfl rfl rfl rfl ?_
  refine ar_invv (as := [.int a]) (rest := []) (b2 := (0, 0)) (b3 := (0, 0)) (q := 8) rfl rfl rfl rfl mk_2 rfl rfl rfl rfl rfl ?_
  obtain ⟨hA, hB⟩ := h
  refine ok_To_hasTown (by omega)  (fun c_1 => ?_) (fun c_1 => ?_)
  · have h := hA c_1
    clear hA hB
    show am_Run am_X0 (am_meth d) 4 R 8 [some (.ref 0), some (.int a), some (.int b), some (.int x), none, none] [.int 1] (am_mk I L, 0, 0)
    refine ar_b0 am_c_eq (t := 27) (q := 11) rfl rfl rfl (fun c9 => absurd c9 (by decide)) (fun _ => ?_)
    refine ar_aload_n (j := 0) (q := 12) rfl rfl rfl rfl ?_
    refine ar_getf (v := .ref 2) (q := 15) rfl rfl mk_0 rfl rfl ?_
    refine ar_iload_n (j := 2) (q := 16) rfl rfl rfl rfl ?_
    refine ar_invv (as := [.int b]) (rest := []) (b2 := (0, 0)) (b3 := (0, 0)) (q := 19) rfl rfl rfl rfl mk_2 rfl rfl rfl rfl rfl ?_
    obtain ⟨hA, hB⟩ := h
    refine ok_To_hasTown (by omega)  (fun c_2 => ?_) (fun c_2 => ?_)
    · have h := hA c_2
      clear hA hB
      show am_Run am_X0 (am_meth d) 4 R 19 [some (.ref 0), some (.int a), some (.int b), some (.int x), none, none] [.int 1] (am_mk I L, 0, 0)
      refine ar_b0 am_c_eq (t := 27) (q := 22) rfl rfl rfl (fun c9 => absurd c9 (by decide)) (fun _ => ?_)
      refine ar_iload_n (j := 1) (q := 23) rfl rfl rfl rfl ?_
      refine ar_iload_n (j := 2) (q := 24) rfl rfl rfl rfl ?_
      obtain ⟨hA, hB⟩ := h
      refine ar_br am_c_ne (t := 33) (q := 27) rfl rfl rfl (fun c_3 => ?_) (fun c_3 => ?_)
      · have h := hB c_3
        clear hA hB
        refine ar_iload_n (j := 3) (q := 34) rfl rfl rfl rfl ?_
        refine ar_iconst (v := 1) (q := 35) rfl rfl rfl ?_
        refine ar_sipush (v := 240) (q := 38) rfl rfl rfl ?_
        refine ar_invs (as := [.int x, .int 1, .int 240]) (rest := []) (b2 := (0, 0)) (b3 := (0, 0)) (q := 41) rfl rfl rfl rfl rfl rfl rfl rfl rfl ?_
        obtain ⟨hC0, hC1, hC2⟩ := h
        refine ok_bound (by omega)  (fun c_4 => ?_) (fun c_4 => ?_) (fun c_4 => ?_)
        · have h := hC0 c_4
          clear hC0 hC1 hC2
          show am_Run am_X0 (am_meth d) 4 R 41 [some (.ref 0), some (.int a), some (.int b), some (.int x), none, none] [.int (-4 : Int32)] (am_mk I L, 0, 0)
          refine ar_istore (ls' := [some (.ref 0), some (.int a), some (.int b), some (.int x), some (.int (-4 : Int32)), none]) (q := 43) rfl rfl rfl rfl ?_
          refine ar_iload (q := 45) rfl rfl rfl ?_
          refine ar_b0 am_c_eq (t := 55) (q := 48) rfl rfl rfl (fun c9 => absurd c9 (by decide)) (fun _ => ?_)
          refine ar_aload_n (j := 0) (q := 49) rfl rfl rfl rfl ?_
          refine ar_iload (q := 51) rfl rfl rfl ?_
          refine ar_invv (as := [.int (-4 : Int32)]) (rest := []) (b2 := (0, 0)) (b3 := (0, 0)) (q := 54) rfl rfl rfl rfl mk_0 rfl rfl rfl rfl rfl ?_
          refine ok_refuse (j := 4) (by omega) (by decide) (by decide) ?_
          show am_Run am_X0 (am_meth d) 4 R 54 [some (.ref 0), some (.int a), some (.int b), some (.int x), some (.int (-4 : Int32)), none] [.int (-4 : Int32)] (am_mk (am_rf I 4) L, 0, 0)
          exact ar_iret rfl rfl h
        · have h := hC1 c_4
          clear hC0 hC1 hC2
          show am_Run am_X0 (am_meth d) 4 R 41 [some (.ref 0), some (.int a), some (.int b), some (.int x), none, none] [.int (-6 : Int32)] (am_mk I L, 0, 0)
          refine ar_istore (ls' := [some (.ref 0), some (.int a), some (.int b), some (.int x), some (.int (-6 : Int32)), none]) (q := 43) rfl rfl rfl rfl ?_
          refine ar_iload (q := 45) rfl rfl rfl ?_
          refine ar_b0 am_c_eq (t := 55) (q := 48) rfl rfl rfl (fun c9 => absurd c9 (by decide)) (fun _ => ?_)
          refine ar_aload_n (j := 0) (q := 49) rfl rfl rfl rfl ?_
          refine ar_iload (q := 51) rfl rfl rfl ?_
          refine ar_invv (as := [.int (-6 : Int32)]) (rest := []) (b2 := (0, 0)) (b3 := (0, 0)) (q := 54) rfl rfl rfl rfl mk_0 rfl rfl rfl rfl rfl ?_
          refine ok_refuse (j := 6) (by omega) (by decide) (by decide) ?_
          show am_Run am_X0 (am_meth d) 4 R 54 [some (.ref 0), some (.int a), some (.int b), some (.int x), some (.int (-6 : Int32)), none] [.int (-6 : Int32)] (am_mk (am_rf I 6) L, 0, 0)
          exact ar_iret rfl rfl h
        · have h := hC2 c_4
          clear hC0 hC1 hC2
          show am_Run am_X0 (am_meth d) 4 R 41 [some (.ref 0), some (.int a), some (.int b), some (.int x), none, none] [.int 0] (am_mk I L, 0, 0)
          refine ar_istore (ls' := [some (.ref 0), some (.int a), some (.int b), some (.int x), some (.int 0), none]) (q := 43) rfl rfl rfl rfl ?_
          refine ar_iload (q := 45) rfl rfl rfl ?_
          refine ar_b0 am_c_eq (t := 55) (q := 48) rfl rfl rfl (fun _ => ?_) (fun c9 => absurd (by decide) c9)
          refine ar_aload_n (j := 0) (q := 56) rfl rfl rfl rfl ?_
          refine ar_getf (v := .ref 2) (q := 59) rfl rfl mk_0 rfl rfl ?_
          refine ar_getf (v := .ref 5) (q := 62) rfl rfl mk_2 rfl rfl ?_
          refine ar_iload_n (j := 1) (q := 63) rfl rfl rfl rfl ?_
          obtain ⟨j_5, hx_6, hi_7, h⟩ := h
          refine ar_aald (c2 := 6 + j_5) (q := 64) rfl mk_5 (am_inE hi_7 hx_6 (by decide)) (congrArg (fun z => some (6 + z)) (am_clT hi_7 hx_6 (by decide))) rfl ?_
          refine ar_iload_n (j := 2) (q := 65) rfl rfl rfl rfl ?_
          obtain ⟨j_8, hx_9, hi_10, h⟩ := h
          refine ar_iald (v := I (6 + j_5) j_8) (q := 66) rfl (mk_g5 hx_6) (am_inE hi_10 hx_9 (by decide)) (am_clE hi_10 hx_9 (by decide)) rfl ?_
          refine ar_istore (ls' := [some (.ref 0), some (.int a), some (.int b), some (.int x), some (.int 0), some (.int (I (6 + j_5) j_8))]) (q := 68) rfl rfl rfl rfl ?_
          refine ar_aload_n (j := 0) (q := 69) rfl rfl rfl rfl ?_
          refine ar_getf (v := .ref 2) (q := 72) rfl rfl mk_0 rfl rfl ?_
          refine ar_getf (v := .ref 5) (q := 75) rfl rfl mk_2 rfl rfl ?_
          refine ar_iload_n (j := 1) (q := 76) rfl rfl rfl rfl ?_
          refine ar_aald (c2 := 6 + j_5) (q := 77) rfl mk_5 (am_inE hi_7 hx_6 (by decide)) (congrArg (fun z => some (6 + z)) (am_clT hi_7 hx_6 (by decide))) rfl ?_
          refine ar_iload_n (j := 2) (q := 78) rfl rfl rfl rfl ?_
          refine ar_iload_n (j := 3) (q := 79) rfl rfl rfl rfl ?_
          obtain ⟨I_11, hI_12⟩ : ∃ z : Nat → Nat → Int32, z = va_up I (6 + j_5) (upd (I (6 + j_5)) j_8 x) := ⟨_, rfl⟩
          have h := h I_11 hI_12
          refine ar_iast (hp2 := am_mk I_11 L) (q := 80) rfl (mk_g5 hx_6) (am_inE hi_10 hx_9 (by decide)) (by rw [am_clT hi_10 hx_9 (by decide), hI_12]; exact (mk_gs5 hx_6)) rfl ?_
          refine ar_aload_n (j := 0) (q := 81) rfl rfl rfl rfl ?_
          refine ar_getf (v := .ref 2) (q := 84) rfl rfl mk_0 rfl rfl ?_
          refine ar_getf (v := .ref 5) (q := 87) rfl rfl mk_2 rfl rfl ?_
          refine ar_iload_n (j := 2) (q := 88) rfl rfl rfl rfl ?_
          refine ar_aald (c2 := 6 + j_8) (q := 89) rfl mk_5 (am_inE hi_10 hx_9 (by decide)) (congrArg (fun z => some (6 + z)) (am_clT hi_10 hx_9 (by decide))) rfl ?_
          refine ar_iload_n (j := 1) (q := 90) rfl rfl rfl rfl ?_
          refine ar_iload_n (j := 3) (q := 91) rfl rfl rfl rfl ?_
          obtain ⟨I_13, hI_14⟩ : ∃ z : Nat → Nat → Int32, z = va_up I_11 (6 + j_8) (upd (I_11 (6 + j_8)) j_5 x) := ⟨_, rfl⟩
          have h := h I_13 hI_14
          refine ar_iast (hp2 := am_mk I_13 L) (q := 92) rfl (mk_g5 hx_9) (am_inE hi_7 hx_6 (by decide)) (by rw [am_clT hi_7 hx_6 (by decide), hI_14]; exact (mk_gs5 hx_9)) rfl ?_
          refine ar_iload (q := 94) rfl rfl rfl ?_
          exact ar_iret rfl rfl h
      · have c_3 := Classical.not_not.mp c_3
        have h := hA c_3
        clear hA hB
        refine ar_aload_n (j := 0) (q := 28) rfl rfl rfl rfl ?_
        refine ar_iconst (v := (-1 : Int32)) (q := 29) rfl rfl rfl ?_
        refine ar_invv (as := [.int (-1 : Int32)]) (rest := []) (b2 := (0, 0)) (b3 := (0, 0)) (q := 32) rfl rfl rfl rfl mk_0 rfl rfl rfl rfl rfl ?_
        refine ok_refuse (j := 1) (by omega) (by decide) (by decide) ?_
        show am_Run am_X0 (am_meth d) 4 R 32 [some (.ref 0), some (.int a), some (.int b), some (.int x), none, none] [.int (-1 : Int32)] (am_mk (am_rf I 1) L, 0, 0)
        exact ar_iret rfl rfl h
    · have h := hB c_2
      clear hA hB
      show am_Run am_X0 (am_meth d) 4 R 19 [some (.ref 0), some (.int a), some (.int b), some (.int x), none, none] [.int 0] (am_mk I L, 0, 0)
      refine ar_b0 am_c_eq (t := 27) (q := 22) rfl rfl rfl (fun _ => ?_) (fun c9 => absurd (by decide) c9)
      refine ar_aload_n (j := 0) (q := 28) rfl rfl rfl rfl ?_
      refine ar_iconst (v := (-1 : Int32)) (q := 29) rfl rfl rfl ?_
      refine ar_invv (as := [.int (-1 : Int32)]) (rest := []) (b2 := (0, 0)) (b3 := (0, 0)) (q := 32) rfl rfl rfl rfl mk_0 rfl rfl rfl rfl rfl ?_
      refine ok_refuse (j := 1) (by omega) (by decide) (by decide) ?_
      show am_Run am_X0 (am_meth d) 4 R 32 [some (.ref 0), some (.int a), some (.int b), some (.int x), none, none] [.int (-1 : Int32)] (am_mk (am_rf I 1) L, 0, 0)
      exact ar_iret rfl rfl h
  · have h := hB c_1
    clear hA hB
    show am_Run am_X0 (am_meth d) 4 R 8 [some (.ref 0), some (.int a), some (.int b), some (.int x), none, none] [.int 0] (am_mk I L, 0, 0)
    refine ar_b0 am_c_eq (t := 27) (q := 11) rfl rfl rfl (fun _ => ?_) (fun c9 => absurd (by decide) c9)
    refine ar_aload_n (j := 0) (q := 28) rfl rfl rfl rfl ?_
    refine ar_iconst (v := (-1 : Int32)) (q := 29) rfl rfl rfl ?_
    refine ar_invv (as := [.int (-1 : Int32)]) (rest := []) (b2 := (0, 0)) (b3 := (0, 0)) (q := 32) rfl rfl rfl rfl mk_0 rfl rfl rfl rfl rfl ?_
    refine ok_refuse (j := 1) (by omega) (by decide) (by decide) ?_
    show am_Run am_X0 (am_meth d) 4 R 32 [some (.ref 0), some (.int a), some (.int b), some (.int x), none, none] [.int (-1 : Int32)] (am_mk (am_rf I 1) L, 0, 0)
    exact ar_iret rfl rfl h
theorem r_H_limit_0 {d : Nat} (hd : 1 ≤ d) {R : am_R} {I : Nat → Nat → Int32} {L : Nat → Nat → Int64} {l : Int32} {x : Int32} (h : ((0 ≤ l ∧ l < 5 → (((x < 0 → (R (some (.int (-4 : Int32))) (am_mk (am_rf I 4) L, 0, 0))) ∧ ((¬ x < 0 ∧ 180 < x) → (R (some (.int (-6 : Int32))) (am_mk (am_rf I 6) L, 0, 0))) ∧ ((¬ x < 0 ∧ ¬ 180 < x) → (∃ j_3 : Nat, j_3 < 5 ∧ l = nI j_3 ∧ (∀ I_6 : Nat → Nat → Int32, I_6 = va_up I 4 (upd (I 4) j_3 x) → (R (some (.int (I 4 j_3))) (am_mk I_6 L, 0, 0)))))))) ∧ (¬ (0 ≤ l ∧ l < 5) → (R (some (.int (-1 : Int32))) (am_mk (am_rf I 1) L, 0, 0))))) : am_Run am_X0 (am_meth d) 6 R 0 [some (.ref 0), some (.int l), some (.int x), none, none] [] (am_mk I L, 0, 0) := by
  refine ar_aload_n (j := 0) (q := 1) rfl rfl rfl rfl ?_
  refine ar_getf (v := .ref 2) (q := 4) rfl rfl mk_0 rfl rfl ?_
  refine ar_iload_n (j := 1) (q := 5) rfl rfl rfl rfl ?_
  refine ar_invv (as := [.int l]) (rest := []) (b2 := (0, 0)) (b3 := (0, 0)) (q := 8) rfl rfl rfl rfl mk_2 rfl rfl rfl rfl rfl ?_
  obtain ⟨hA, hB⟩ := h
  refine ok_To_hasLand (by omega)  (fun c_1 => ?_) (fun c_1 => ?_)
  · have h := hA c_1
    clear hA hB
    show am_Run am_X0 (am_meth d) 6 R 8 [some (.ref 0), some (.int l), some (.int x), none, none] [.int 1] (am_mk I L, 0, 0)
    refine ar_b0 am_c_ne (t := 17) (q := 11) rfl rfl rfl (fun _ => ?_) (fun c9 => absurd (by decide) c9)
    refine ar_iload_n (j := 2) (q := 18) rfl rfl rfl rfl ?_
    refine ar_iconst (v := 0) (q := 19) rfl rfl rfl ?_
    refine ar_sipush (v := 180) (q := 22) rfl rfl rfl ?_
    refine ar_invs (as := [.int x, .int 0, .int 180]) (rest := []) (b2 := (0, 0)) (b3 := (0, 0)) (q := 25) rfl rfl rfl rfl rfl rfl rfl rfl rfl ?_
    obtain ⟨hC0, hC1, hC2⟩ := h
    refine ok_bound (by omega)  (fun c_2 => ?_) (fun c_2 => ?_) (fun c_2 => ?_)
    · have h := hC0 c_2
      clear hC0 hC1 hC2
      show am_Run am_X0 (am_meth d) 6 R 25 [some (.ref 0), some (.int l), some (.int x), none, none] [.int (-4 : Int32)] (am_mk I L, 0, 0)
      refine ar_istore_n (j := 3) (ls' := [some (.ref 0), some (.int l), some (.int x), some (.int (-4 : Int32)), none]) (q := 26) rfl rfl rfl rfl rfl ?_
      refine ar_iload_n (j := 3) (q := 27) rfl rfl rfl rfl ?_
      refine ar_b0 am_c_eq (t := 36) (q := 30) rfl rfl rfl (fun c9 => absurd c9 (by decide)) (fun _ => ?_)
      refine ar_aload_n (j := 0) (q := 31) rfl rfl rfl rfl ?_
      refine ar_iload_n (j := 3) (q := 32) rfl rfl rfl rfl ?_
      refine ar_invv (as := [.int (-4 : Int32)]) (rest := []) (b2 := (0, 0)) (b3 := (0, 0)) (q := 35) rfl rfl rfl rfl mk_0 rfl rfl rfl rfl rfl ?_
      refine ok_refuse (j := 4) (by omega) (by decide) (by decide) ?_
      show am_Run am_X0 (am_meth d) 6 R 35 [some (.ref 0), some (.int l), some (.int x), some (.int (-4 : Int32)), none] [.int (-4 : Int32)] (am_mk (am_rf I 4) L, 0, 0)
      exact ar_iret rfl rfl h
    · have h := hC1 c_2
      clear hC0 hC1 hC2
      show am_Run am_X0 (am_meth d) 6 R 25 [some (.ref 0), some (.int l), some (.int x), none, none] [.int (-6 : Int32)] (am_mk I L, 0, 0)
      refine ar_istore_n (j := 3) (ls' := [some (.ref 0), some (.int l), some (.int x), some (.int (-6 : Int32)), none]) (q := 26) rfl rfl rfl rfl rfl ?_
      refine ar_iload_n (j := 3) (q := 27) rfl rfl rfl rfl ?_
      refine ar_b0 am_c_eq (t := 36) (q := 30) rfl rfl rfl (fun c9 => absurd c9 (by decide)) (fun _ => ?_)
      refine ar_aload_n (j := 0) (q := 31) rfl rfl rfl rfl ?_
      refine ar_iload_n (j := 3) (q := 32) rfl rfl rfl rfl ?_
      refine ar_invv (as := [.int (-6 : Int32)]) (rest := []) (b2 := (0, 0)) (b3 := (0, 0)) (q := 35) rfl rfl rfl rfl mk_0 rfl rfl rfl rfl rfl ?_
      refine ok_refuse (j := 6) (by omega) (by decide) (by decide) ?_
      show am_Run am_X0 (am_meth d) 6 R 35 [some (.ref 0), some (.int l), some (.int x), some (.int (-6 : Int32)), none] [.int (-6 : Int32)] (am_mk (am_rf I 6) L, 0, 0)
      exact ar_iret rfl rfl h
    · have h := hC2 c_2
      clear hC0 hC1 hC2
      show am_Run am_X0 (am_meth d) 6 R 25 [some (.ref 0), some (.int l), some (.int x), none, none] [.int 0] (am_mk I L, 0, 0)
      refine ar_istore_n (j := 3) (ls' := [some (.ref 0), some (.int l), some (.int x), some (.int 0), none]) (q := 26) rfl rfl rfl rfl rfl ?_
      refine ar_iload_n (j := 3) (q := 27) rfl rfl rfl rfl ?_
      refine ar_b0 am_c_eq (t := 36) (q := 30) rfl rfl rfl (fun _ => ?_) (fun c9 => absurd (by decide) c9)
      refine ar_aload_n (j := 0) (q := 37) rfl rfl rfl rfl ?_
      refine ar_getf (v := .ref 2) (q := 40) rfl rfl mk_0 rfl rfl ?_
      refine ar_getf (v := .ref 4) (q := 43) rfl rfl mk_2 rfl rfl ?_
      refine ar_iload_n (j := 1) (q := 44) rfl rfl rfl rfl ?_
      obtain ⟨j_3, hx_4, hi_5, h⟩ := h
      refine ar_iald (v := I 4 j_3) (q := 45) rfl mk_4 (am_inE hi_5 hx_4 (by decide)) (am_clE hi_5 hx_4 (by decide)) rfl ?_
      refine ar_istore (ls' := [some (.ref 0), some (.int l), some (.int x), some (.int 0), some (.int (I 4 j_3))]) (q := 47) rfl rfl rfl rfl ?_
      refine ar_aload_n (j := 0) (q := 48) rfl rfl rfl rfl ?_
      refine ar_getf (v := .ref 2) (q := 51) rfl rfl mk_0 rfl rfl ?_
      refine ar_getf (v := .ref 4) (q := 54) rfl rfl mk_2 rfl rfl ?_
      refine ar_iload_n (j := 1) (q := 55) rfl rfl rfl rfl ?_
      refine ar_iload_n (j := 2) (q := 56) rfl rfl rfl rfl ?_
      obtain ⟨I_6, hI_7⟩ : ∃ z : Nat → Nat → Int32, z = va_up I 4 (upd (I 4) j_3 x) := ⟨_, rfl⟩
      have h := h I_6 hI_7
      refine ar_iast (hp2 := am_mk I_6 L) (q := 57) rfl mk_4 (am_inE hi_5 hx_4 (by decide)) (by rw [am_clT hi_5 hx_4 (by decide), hI_7]; exact mk_s4) rfl ?_
      refine ar_iload (q := 59) rfl rfl rfl ?_
      exact ar_iret rfl rfl h
  · have h := hB c_1
    clear hA hB
    show am_Run am_X0 (am_meth d) 6 R 8 [some (.ref 0), some (.int l), some (.int x), none, none] [.int 0] (am_mk I L, 0, 0)
    refine ar_b0 am_c_ne (t := 17) (q := 11) rfl rfl rfl (fun c9 => absurd (by decide) c9) (fun _ => ?_)
    refine ar_aload_n (j := 0) (q := 12) rfl rfl rfl rfl ?_
    refine ar_iconst (v := (-1 : Int32)) (q := 13) rfl rfl rfl ?_
    refine ar_invv (as := [.int (-1 : Int32)]) (rest := []) (b2 := (0, 0)) (b3 := (0, 0)) (q := 16) rfl rfl rfl rfl mk_0 rfl rfl rfl rfl rfl ?_
    refine ok_refuse (j := 1) (by omega) (by decide) (by decide) ?_
    show am_Run am_X0 (am_meth d) 6 R 16 [some (.ref 0), some (.int l), some (.int x), none, none] [.int (-1 : Int32)] (am_mk (am_rf I 1) L, 0, 0)
    exact ar_iret rfl rfl h
theorem r_H_keeper_0 {d : Nat} (hd : 1 ≤ d) {R : am_R} {I : Nat → Nat → Int32} {L : Nat → Nat → Int64} {t : Int32} {b : Int32} {p : Int32} {m : Int32} (h : ((0 ≤ t ∧ t < 10 → (((b < 0 → (R (some (.int (-4 : Int32))) (am_mk (am_rf I 4) L, 0, 0))) ∧ (¬ b < 0 → (((p < 1 → (R (some (.int (-4 : Int32))) (am_mk (am_rf I 4) L, 0, 0))) ∧ (¬ p < 1 → (((m < 0 → (R (some (.int (-4 : Int32))) (am_mk (am_rf I 4) L, 0, 0))) ∧ (¬ m < 0 → (((b ≤ 255 → (((p ≤ 2 → (((m ≤ 99999 → ((((I 16 0) < 20 → ((am_ix I 16 0 20) ∧ (R (some (.int (I 16 0))) (am_mk (am_ka I t b p m) L, 0, 0)))) ∧ (¬ (I 16 0) < 20 → (R (some (.int (-6 : Int32))) (am_mk (am_rf I 6) L, 0, 0)))))) ∧ (¬ m ≤ 99999 → (R (some (.int (-6 : Int32))) (am_mk (am_rf I 6) L, 0, 0)))))) ∧ (¬ p ≤ 2 → (R (some (.int (-6 : Int32))) (am_mk (am_rf I 6) L, 0, 0)))))) ∧ (¬ b ≤ 255 → (R (some (.int (-6 : Int32))) (am_mk (am_rf I 6) L, 0, 0))))))))))))))) ∧ (¬ (0 ≤ t ∧ t < 10) → (R (some (.int (-1 : Int32))) (am_mk (am_rf I 1) L, 0, 0))))) : am_Run am_X0 (am_meth d) 7 R 0 [some (.ref 0), some (.int t), some (.int b), some (.int p), some (.int m)] [] (am_mk I L, 0, 0) := by
  refine ar_aload_n (j := 0) (q := 1) rfl rfl rfl rfl ?_
  refine ar_getf (v := .ref 2) (q := 4) rfl rfl mk_0 rfl rfl ?_
  refine ar_iload_n (j := 1) (q := 5) rfl rfl rfl rfl ?_
  refine ar_invv (as := [.int t]) (rest := []) (b2 := (0, 0)) (b3 := (0, 0)) (q := 8) rfl rfl rfl rfl mk_2 rfl rfl rfl rfl rfl ?_
  obtain ⟨hA, hB⟩ := h
  refine ok_To_hasTown (by omega)  (fun c_1 => ?_) (fun c_1 => ?_)
  · have h := hA c_1
    clear hA hB
    show am_Run am_X0 (am_meth d) 7 R 8 [some (.ref 0), some (.int t), some (.int b), some (.int p), some (.int m)] [.int 1] (am_mk I L, 0, 0)
    refine ar_b0 am_c_ne (t := 17) (q := 11) rfl rfl rfl (fun _ => ?_) (fun c9 => absurd (by decide) c9)
    refine ar_iload_n (j := 2) (q := 18) rfl rfl rfl rfl ?_
    obtain ⟨hA, hB⟩ := h
    refine ar_b0 am_c_lt (t := 31) (q := 21) rfl rfl rfl (fun c_2 => ?_) (fun c_2 => ?_)
    · have h := hA c_2
      clear hA hB
      refine ar_aload_n (j := 0) (q := 32) rfl rfl rfl rfl ?_
      refine ar_bipush (v := (-4 : Int32)) (q := 34) rfl rfl rfl ?_
      refine ar_invv (as := [.int (-4 : Int32)]) (rest := []) (b2 := (0, 0)) (b3 := (0, 0)) (q := 37) rfl rfl rfl rfl mk_0 rfl rfl rfl rfl rfl ?_
      refine ok_refuse (j := 4) (by omega) (by decide) (by decide) ?_
      show am_Run am_X0 (am_meth d) 7 R 37 [some (.ref 0), some (.int t), some (.int b), some (.int p), some (.int m)] [.int (-4 : Int32)] (am_mk (am_rf I 4) L, 0, 0)
      exact ar_iret rfl rfl h
    · have h := hB c_2
      clear hA hB
      refine ar_iload_n (j := 3) (q := 22) rfl rfl rfl rfl ?_
      refine ar_iconst (v := 1) (q := 23) rfl rfl rfl ?_
      obtain ⟨hA, hB⟩ := h
      refine ar_br am_c_lt (t := 31) (q := 26) rfl rfl rfl (fun c_3 => ?_) (fun c_3 => ?_)
      · have h := hA c_3
        clear hA hB
        refine ar_aload_n (j := 0) (q := 32) rfl rfl rfl rfl ?_
        refine ar_bipush (v := (-4 : Int32)) (q := 34) rfl rfl rfl ?_
        refine ar_invv (as := [.int (-4 : Int32)]) (rest := []) (b2 := (0, 0)) (b3 := (0, 0)) (q := 37) rfl rfl rfl rfl mk_0 rfl rfl rfl rfl rfl ?_
        refine ok_refuse (j := 4) (by omega) (by decide) (by decide) ?_
        show am_Run am_X0 (am_meth d) 7 R 37 [some (.ref 0), some (.int t), some (.int b), some (.int p), some (.int m)] [.int (-4 : Int32)] (am_mk (am_rf I 4) L, 0, 0)
        exact ar_iret rfl rfl h
      · have h := hB c_3
        clear hA hB
        refine ar_iload (q := 28) rfl rfl rfl ?_
        obtain ⟨hA, hB⟩ := h
        refine ar_b0 am_d_ge (t := 38) (q := 31) rfl rfl rfl (fun c_4 => ?_) (fun c_4 => ?_)
        · have h := hB c_4
          clear hA hB
          refine ar_iload_n (j := 2) (q := 39) rfl rfl rfl rfl ?_
          refine ar_sipush (v := 255) (q := 42) rfl rfl rfl ?_
          obtain ⟨hA, hB⟩ := h
          refine ar_br am_d_gt (t := 57) (q := 45) rfl rfl rfl (fun c_5 => ?_) (fun c_5 => ?_)
          · have h := hB c_5
            clear hA hB
            refine ar_aload_n (j := 0) (q := 58) rfl rfl rfl rfl ?_
            refine ar_bipush (v := (-6 : Int32)) (q := 60) rfl rfl rfl ?_
            refine ar_invv (as := [.int (-6 : Int32)]) (rest := []) (b2 := (0, 0)) (b3 := (0, 0)) (q := 63) rfl rfl rfl rfl mk_0 rfl rfl rfl rfl rfl ?_
            refine ok_refuse (j := 6) (by omega) (by decide) (by decide) ?_
            show am_Run am_X0 (am_meth d) 7 R 63 [some (.ref 0), some (.int t), some (.int b), some (.int p), some (.int m)] [.int (-6 : Int32)] (am_mk (am_rf I 6) L, 0, 0)
            exact ar_iret rfl rfl h
          · have c_5 := Classical.not_not.mp c_5
            have h := hA c_5
            clear hA hB
            refine ar_iload_n (j := 3) (q := 46) rfl rfl rfl rfl ?_
            refine ar_iconst (v := 2) (q := 47) rfl rfl rfl ?_
            obtain ⟨hA, hB⟩ := h
            refine ar_br am_d_gt (t := 57) (q := 50) rfl rfl rfl (fun c_6 => ?_) (fun c_6 => ?_)
            · have h := hB c_6
              clear hA hB
              refine ar_aload_n (j := 0) (q := 58) rfl rfl rfl rfl ?_
              refine ar_bipush (v := (-6 : Int32)) (q := 60) rfl rfl rfl ?_
              refine ar_invv (as := [.int (-6 : Int32)]) (rest := []) (b2 := (0, 0)) (b3 := (0, 0)) (q := 63) rfl rfl rfl rfl mk_0 rfl rfl rfl rfl rfl ?_
              refine ok_refuse (j := 6) (by omega) (by decide) (by decide) ?_
              show am_Run am_X0 (am_meth d) 7 R 63 [some (.ref 0), some (.int t), some (.int b), some (.int p), some (.int m)] [.int (-6 : Int32)] (am_mk (am_rf I 6) L, 0, 0)
              exact ar_iret rfl rfl h
            · have c_6 := Classical.not_not.mp c_6
              have h := hA c_6
              clear hA hB
              refine ar_iload (q := 52) rfl rfl rfl ?_
              refine ar_ldc (v := 99999) (q := 54) rfl rfl rfl ?_
              obtain ⟨hA, hB⟩ := h
              refine ar_br am_c_le (t := 64) (q := 57) rfl rfl rfl (fun c_7 => ?_) (fun c_7 => ?_)
              · have h := hA c_7
                clear hA hB
                refine ar_aload_n (j := 0) (q := 65) rfl rfl rfl rfl ?_
                refine ar_getf (v := .ref 16) (q := 68) rfl rfl mk_0 rfl rfl ?_
                refine ar_getf (v := .int (I 16 0)) (q := 71) rfl rfl mk_16 rfl rfl ?_
                refine ar_bipush (v := 20) (q := 73) rfl rfl rfl ?_
                obtain ⟨hA, hB⟩ := h
                refine ar_br am_c_lt (t := 83) (q := 76) rfl rfl rfl (fun c_8 => ?_) (fun c_8 => ?_)
                · have h := hA c_8
                  clear hA hB
                  refine ar_aload_n (j := 0) (q := 84) rfl rfl rfl rfl ?_
                  refine ar_getf (v := .ref 16) (q := 87) rfl rfl mk_0 rfl rfl ?_
                  refine ar_iload_n (j := 1) (q := 88) rfl rfl rfl rfl ?_
                  refine ar_iload_n (j := 2) (q := 89) rfl rfl rfl rfl ?_
                  refine ar_iload_n (j := 3) (q := 90) rfl rfl rfl rfl ?_
                  refine ar_iload (q := 92) rfl rfl rfl ?_
                  refine ar_invv (as := [.int t, .int b, .int p, .int m]) (rest := []) (b2 := (0, 0)) (b3 := (0, 0)) (q := 95) rfl rfl rfl rfl mk_16 rfl rfl rfl rfl rfl ?_
                  obtain ⟨hp_9, h⟩ := h
                  refine ok_Ke_add (by omega) hp_9 ?_
                  show am_Run am_X0 (am_meth d) 7 R 95 [some (.ref 0), some (.int t), some (.int b), some (.int p), some (.int m)] [.int (I 16 0)] (am_mk (am_ka I t b p m) L, 0, 0)
                  exact ar_iret rfl rfl h
                · have h := hB c_8
                  clear hA hB
                  refine ar_aload_n (j := 0) (q := 77) rfl rfl rfl rfl ?_
                  refine ar_bipush (v := (-6 : Int32)) (q := 79) rfl rfl rfl ?_
                  refine ar_invv (as := [.int (-6 : Int32)]) (rest := []) (b2 := (0, 0)) (b3 := (0, 0)) (q := 82) rfl rfl rfl rfl mk_0 rfl rfl rfl rfl rfl ?_
                  refine ok_refuse (j := 6) (by omega) (by decide) (by decide) ?_
                  show am_Run am_X0 (am_meth d) 7 R 82 [some (.ref 0), some (.int t), some (.int b), some (.int p), some (.int m)] [.int (-6 : Int32)] (am_mk (am_rf I 6) L, 0, 0)
                  exact ar_iret rfl rfl h
              · have h := hB c_7
                clear hA hB
                refine ar_aload_n (j := 0) (q := 58) rfl rfl rfl rfl ?_
                refine ar_bipush (v := (-6 : Int32)) (q := 60) rfl rfl rfl ?_
                refine ar_invv (as := [.int (-6 : Int32)]) (rest := []) (b2 := (0, 0)) (b3 := (0, 0)) (q := 63) rfl rfl rfl rfl mk_0 rfl rfl rfl rfl rfl ?_
                refine ok_refuse (j := 6) (by omega) (by decide) (by decide) ?_
                show am_Run am_X0 (am_meth d) 7 R 63 [some (.ref 0), some (.int t), some (.int b), some (.int p), some (.int m)] [.int (-6 : Int32)] (am_mk (am_rf I 6) L, 0, 0)
                exact ar_iret rfl rfl h
        · have c_4 := Classical.not_not.mp c_4
          have h := hA c_4
          clear hA hB
          refine ar_aload_n (j := 0) (q := 32) rfl rfl rfl rfl ?_
          refine ar_bipush (v := (-4 : Int32)) (q := 34) rfl rfl rfl ?_
          refine ar_invv (as := [.int (-4 : Int32)]) (rest := []) (b2 := (0, 0)) (b3 := (0, 0)) (q := 37) rfl rfl rfl rfl mk_0 rfl rfl rfl rfl rfl ?_
          refine ok_refuse (j := 4) (by omega) (by decide) (by decide) ?_
          show am_Run am_X0 (am_meth d) 7 R 37 [some (.ref 0), some (.int t), some (.int b), some (.int p), some (.int m)] [.int (-4 : Int32)] (am_mk (am_rf I 4) L, 0, 0)
          exact ar_iret rfl rfl h
  · have h := hB c_1
    clear hA hB
    show am_Run am_X0 (am_meth d) 7 R 8 [some (.ref 0), some (.int t), some (.int b), some (.int p), some (.int m)] [.int 0] (am_mk I L, 0, 0)
    refine ar_b0 am_c_ne (t := 17) (q := 11) rfl rfl rfl (fun c9 => absurd (by decide) c9) (fun _ => ?_)
    refine ar_aload_n (j := 0) (q := 12) rfl rfl rfl rfl ?_
    refine ar_iconst (v := (-1 : Int32)) (q := 13) rfl rfl rfl ?_
    refine ar_invv (as := [.int (-1 : Int32)]) (rest := []) (b2 := (0, 0)) (b3 := (0, 0)) (q := 16) rfl rfl rfl rfl mk_0 rfl rfl rfl rfl rfl ?_
    refine ok_refuse (j := 1) (by omega) (by decide) (by decide) ?_
    show am_Run am_X0 (am_meth d) 7 R 16 [some (.ref 0), some (.int t), some (.int b), some (.int p), some (.int m)] [.int (-1 : Int32)] (am_mk (am_rf I 1) L, 0, 0)
    exact ar_iret rfl rfl h
theorem r_H_house_0 {d : Nat} (hd : 1 ≤ d) {R : am_R} {I : Nat → Nat → Int32} {L : Nat → Nat → Int64} {t : Int32} {b : Int32} (h : ((0 ≤ t ∧ t < 10 → (((b < 0 → (R (some (.int (-4 : Int32))) (am_mk (am_rf I 4) L, 0, 0))) ∧ ((¬ b < 0 ∧ 255 < b) → (R (some (.int (-6 : Int32))) (am_mk (am_rf I 6) L, 0, 0))) ∧ ((¬ b < 0 ∧ ¬ 255 < b) → ((((I 42 0) < 20 → ((am_ix I 42 0 20) ∧ (R (some (.int (I 42 0))) (am_mk (am_ha I t b) L, 0, 0)))) ∧ (¬ (I 42 0) < 20 → (R (some (.int (-6 : Int32))) (am_mk (am_rf I 6) L, 0, 0))))))))) ∧ (¬ (0 ≤ t ∧ t < 10) → (R (some (.int (-1 : Int32))) (am_mk (am_rf I 1) L, 0, 0))))) : am_Run am_X0 (am_meth d) 8 R 0 [some (.ref 0), some (.int t), some (.int b), none] [] (am_mk I L, 0, 0) := by
  refine ar_aload_n (j := 0) (q := 1) rfl rfl rfl rfl ?_
  refine ar_getf (v := .ref 2) (q := 4) rfl rfl mk_0 rfl rfl ?_
  refine ar_iload_n (j := 1) (q := 5) rfl rfl rfl rfl ?_
  refine ar_invv (as := [.int t]) (rest := []) (b2 := (0, 0)) (b3 := (0, 0)) (q := 8) rfl rfl rfl rfl mk_2 rfl rfl rfl rfl rfl ?_
  obtain ⟨hA, hB⟩ := h
  refine ok_To_hasTown (by omega)  (fun c_1 => ?_) (fun c_1 => ?_)
  · have h := hA c_1
    clear hA hB
    show am_Run am_X0 (am_meth d) 8 R 8 [some (.ref 0), some (.int t), some (.int b), none] [.int 1] (am_mk I L, 0, 0)
    refine ar_b0 am_c_ne (t := 17) (q := 11) rfl rfl rfl (fun _ => ?_) (fun c9 => absurd (by decide) c9)
    refine ar_iload_n (j := 2) (q := 18) rfl rfl rfl rfl ?_
    refine ar_iconst (v := 0) (q := 19) rfl rfl rfl ?_
    refine ar_sipush (v := 255) (q := 22) rfl rfl rfl ?_
    refine ar_invs (as := [.int b, .int 0, .int 255]) (rest := []) (b2 := (0, 0)) (b3 := (0, 0)) (q := 25) rfl rfl rfl rfl rfl rfl rfl rfl rfl ?_
    obtain ⟨hC0, hC1, hC2⟩ := h
    refine ok_bound (by omega)  (fun c_2 => ?_) (fun c_2 => ?_) (fun c_2 => ?_)
    · have h := hC0 c_2
      clear hC0 hC1 hC2
      show am_Run am_X0 (am_meth d) 8 R 25 [some (.ref 0), some (.int t), some (.int b), none] [.int (-4 : Int32)] (am_mk I L, 0, 0)
      refine ar_istore_n (j := 3) (ls' := [some (.ref 0), some (.int t), some (.int b), some (.int (-4 : Int32))]) (q := 26) rfl rfl rfl rfl rfl ?_
      refine ar_iload_n (j := 3) (q := 27) rfl rfl rfl rfl ?_
      refine ar_b0 am_c_eq (t := 36) (q := 30) rfl rfl rfl (fun c9 => absurd c9 (by decide)) (fun _ => ?_)
      refine ar_aload_n (j := 0) (q := 31) rfl rfl rfl rfl ?_
      refine ar_iload_n (j := 3) (q := 32) rfl rfl rfl rfl ?_
      refine ar_invv (as := [.int (-4 : Int32)]) (rest := []) (b2 := (0, 0)) (b3 := (0, 0)) (q := 35) rfl rfl rfl rfl mk_0 rfl rfl rfl rfl rfl ?_
      refine ok_refuse (j := 4) (by omega) (by decide) (by decide) ?_
      show am_Run am_X0 (am_meth d) 8 R 35 [some (.ref 0), some (.int t), some (.int b), some (.int (-4 : Int32))] [.int (-4 : Int32)] (am_mk (am_rf I 4) L, 0, 0)
      exact ar_iret rfl rfl h
    · have h := hC1 c_2
      clear hC0 hC1 hC2
      show am_Run am_X0 (am_meth d) 8 R 25 [some (.ref 0), some (.int t), some (.int b), none] [.int (-6 : Int32)] (am_mk I L, 0, 0)
      refine ar_istore_n (j := 3) (ls' := [some (.ref 0), some (.int t), some (.int b), some (.int (-6 : Int32))]) (q := 26) rfl rfl rfl rfl rfl ?_
      refine ar_iload_n (j := 3) (q := 27) rfl rfl rfl rfl ?_
      refine ar_b0 am_c_eq (t := 36) (q := 30) rfl rfl rfl (fun c9 => absurd c9 (by decide)) (fun _ => ?_)
      refine ar_aload_n (j := 0) (q := 31) rfl rfl rfl rfl ?_
      refine ar_iload_n (j := 3) (q := 32) rfl rfl rfl rfl ?_
      refine ar_invv (as := [.int (-6 : Int32)]) (rest := []) (b2 := (0, 0)) (b3 := (0, 0)) (q := 35) rfl rfl rfl rfl mk_0 rfl rfl rfl rfl rfl ?_
      refine ok_refuse (j := 6) (by omega) (by decide) (by decide) ?_
      show am_Run am_X0 (am_meth d) 8 R 35 [some (.ref 0), some (.int t), some (.int b), some (.int (-6 : Int32))] [.int (-6 : Int32)] (am_mk (am_rf I 6) L, 0, 0)
      exact ar_iret rfl rfl h
    · have h := hC2 c_2
      clear hC0 hC1 hC2
      show am_Run am_X0 (am_meth d) 8 R 25 [some (.ref 0), some (.int t), some (.int b), none] [.int 0] (am_mk I L, 0, 0)
      refine ar_istore_n (j := 3) (ls' := [some (.ref 0), some (.int t), some (.int b), some (.int 0)]) (q := 26) rfl rfl rfl rfl rfl ?_
      refine ar_iload_n (j := 3) (q := 27) rfl rfl rfl rfl ?_
      refine ar_b0 am_c_eq (t := 36) (q := 30) rfl rfl rfl (fun _ => ?_) (fun c9 => absurd (by decide) c9)
      refine ar_aload_n (j := 0) (q := 37) rfl rfl rfl rfl ?_
      refine ar_getf (v := .ref 42) (q := 40) rfl rfl mk_0 rfl rfl ?_
      refine ar_getf (v := .int (I 42 0)) (q := 43) rfl rfl mk_42 rfl rfl ?_
      refine ar_bipush (v := 20) (q := 45) rfl rfl rfl ?_
      obtain ⟨hA, hB⟩ := h
      refine ar_br am_c_lt (t := 55) (q := 48) rfl rfl rfl (fun c_3 => ?_) (fun c_3 => ?_)
      · have h := hA c_3
        clear hA hB
        refine ar_aload_n (j := 0) (q := 56) rfl rfl rfl rfl ?_
        refine ar_getf (v := .ref 42) (q := 59) rfl rfl mk_0 rfl rfl ?_
        refine ar_iload_n (j := 1) (q := 60) rfl rfl rfl rfl ?_
        refine ar_iload_n (j := 2) (q := 61) rfl rfl rfl rfl ?_
        refine ar_invv (as := [.int t, .int b]) (rest := []) (b2 := (0, 0)) (b3 := (0, 0)) (q := 64) rfl rfl rfl rfl mk_42 rfl rfl rfl rfl rfl ?_
        obtain ⟨hp_4, h⟩ := h
        refine ok_Ho_add (by omega) hp_4 ?_
        show am_Run am_X0 (am_meth d) 8 R 64 [some (.ref 0), some (.int t), some (.int b), some (.int 0)] [.int (I 42 0)] (am_mk (am_ha I t b) L, 0, 0)
        exact ar_iret rfl rfl h
      · have h := hB c_3
        clear hA hB
        refine ar_aload_n (j := 0) (q := 49) rfl rfl rfl rfl ?_
        refine ar_bipush (v := (-6 : Int32)) (q := 51) rfl rfl rfl ?_
        refine ar_invv (as := [.int (-6 : Int32)]) (rest := []) (b2 := (0, 0)) (b3 := (0, 0)) (q := 54) rfl rfl rfl rfl mk_0 rfl rfl rfl rfl rfl ?_
        refine ok_refuse (j := 6) (by omega) (by decide) (by decide) ?_
        show am_Run am_X0 (am_meth d) 8 R 54 [some (.ref 0), some (.int t), some (.int b), some (.int 0)] [.int (-6 : Int32)] (am_mk (am_rf I 6) L, 0, 0)
        exact ar_iret rfl rfl h
  · have h := hB c_1
    clear hA hB
    show am_Run am_X0 (am_meth d) 8 R 8 [some (.ref 0), some (.int t), some (.int b), none] [.int 0] (am_mk I L, 0, 0)
    refine ar_b0 am_c_ne (t := 17) (q := 11) rfl rfl rfl (fun c9 => absurd (by decide) c9) (fun _ => ?_)
    refine ar_aload_n (j := 0) (q := 12) rfl rfl rfl rfl ?_
    refine ar_iconst (v := (-1 : Int32)) (q := 13) rfl rfl rfl ?_
    refine ar_invv (as := [.int (-1 : Int32)]) (rest := []) (b2 := (0, 0)) (b3 := (0, 0)) (q := 16) rfl rfl rfl rfl mk_0 rfl rfl rfl rfl rfl ?_
    refine ok_refuse (j := 1) (by omega) (by decide) (by decide) ?_
    show am_Run am_X0 (am_meth d) 8 R 16 [some (.ref 0), some (.int t), some (.int b), none] [.int (-1 : Int32)] (am_mk (am_rf I 1) L, 0, 0)
    exact ar_iret rfl rfl h
theorem r_H_stayOf_0 {d : Nat} (hd : 1 ≤ d) {R : am_R} {I : Nat → Nat → Int32} {L : Nat → Nat → Int64} {s : Int32} {w : Int32} (h : ((0 ≤ s ∧ s < I 66 1 → ((((w : Int32).toInt = 0 → (∃ j_3 : Nat, j_3 < 60 ∧ s = nI j_3 ∧ (R (some (.int (I 67 j_3))) (am_mk I L, 0, 0)))) ∧ ((w : Int32).toInt = 1 → (∃ j_6 : Nat, j_6 < 60 ∧ s = nI j_6 ∧ (R (some (.int (I 68 j_6))) (am_mk I L, 0, 0)))) ∧ ((w : Int32).toInt = 2 → (∃ j_9 : Nat, j_9 < 60 ∧ s = nI j_9 ∧ (R (some (.int (I 69 j_9))) (am_mk I L, 0, 0)))) ∧ ((w : Int32).toInt = 3 → (∃ j_12 : Nat, j_12 < 60 ∧ s = nI j_12 ∧ (R (some (.int (I 70 j_12))) (am_mk I L, 0, 0)))) ∧ ((w : Int32).toInt = 4 → (∃ j_15 : Nat, j_15 < 60 ∧ s = nI j_15 ∧ (R (some (.int (I 71 j_15))) (am_mk I L, 0, 0)))) ∧ ((w : Int32).toInt = 5 → (∃ j_18 : Nat, s = nI j_18 ∧ ((j_18 < 60) ∧ (((I 69 j_18 < I 66 0 → (R (some (.int 1)) (am_mk I L, 0, 0))) ∧ (¬ (I 69 j_18 < I 66 0) → (R (some (.int 0)) (am_mk I L, 0, 0)))))))) ∧ (((w : Int32).toInt < 0 ∨ 5 < (w : Int32).toInt) → (R (some (.int (-2 : Int32))) (am_mk (am_rf I 2) L, 0, 0)))))) ∧ (¬ (0 ≤ s ∧ s < I 66 1) → (R (some (.int (-1 : Int32))) (am_mk (am_rf I 1) L, 0, 0))))) : am_Run am_X0 (am_meth d) 10 R 0 [some (.ref 0), some (.int s), some (.int w)] [] (am_mk I L, 0, 0) := by
  refine ar_aload_n (j := 0) (q := 1) rfl rfl rfl rfl ?_
  refine ar_getf (v := .ref 66) (q := 4) rfl rfl mk_0 rfl rfl ?_
  refine ar_iload_n (j := 1) (q := 5) rfl rfl rfl rfl ?_
  refine ar_invv (as := [.int s]) (rest := []) (b2 := (0, 0)) (b3 := (0, 0)) (q := 8) rfl rfl rfl rfl mk_66 rfl rfl rfl rfl rfl ?_
  obtain ⟨hA, hB⟩ := h
  refine ok_St_has (by omega)  (fun c_1 => ?_) (fun c_1 => ?_)
  · have h := hA c_1
    clear hA hB
    show am_Run am_X0 (am_meth d) 10 R 8 [some (.ref 0), some (.int s), some (.int w)] [.int 1] (am_mk I L, 0, 0)
    refine ar_b0 am_c_ne (t := 17) (q := 11) rfl rfl rfl (fun _ => ?_) (fun c9 => absurd (by decide) c9)
    refine ar_iload_n (j := 2) (q := 18) rfl rfl rfl rfl ?_
    obtain ⟨hT0, hT1, hT2, hT3, hT4, hT5, hD⟩ := h
    refine ar_tsw (t0 := 123) rfl rfl (fun c_2 => ?_) (fun c_2 => ?_)
    · have h := hD (by omega)
      clear hT0 hT1 hT2 hT3 hT4 hT5 hD
      refine ar_aload_n (j := 0) (q := 124) rfl rfl rfl rfl ?_
      refine ar_bipush (v := (-2 : Int32)) (q := 126) rfl rfl rfl ?_
      refine ar_invv (as := [.int (-2 : Int32)]) (rest := []) (b2 := (0, 0)) (b3 := (0, 0)) (q := 129) rfl rfl rfl rfl mk_0 rfl rfl rfl rfl rfl ?_
      refine ok_refuse (j := 2) (by omega) (by decide) (by decide) ?_
      show am_Run am_X0 (am_meth d) 10 R 129 [some (.ref 0), some (.int s), some (.int w)] [.int (-2 : Int32)] (am_mk (am_rf I 2) L, 0, 0)
      exact ar_iret rfl rfl h
    · rcases (show (w : Int32).toInt = 0 ∨ (w : Int32).toInt = 1 ∨ (w : Int32).toInt = 2 ∨ (w : Int32).toInt = 3 ∨ (w : Int32).toInt = 4 ∨ (w : Int32).toInt = 5 by omega) with e9 | e9 | e9 | e9 | e9 | e9
      · refine ⟨38, 56, by rw [e9]; rfl, rfl, ?_⟩
        have h := hT0 e9
        clear hT0 hT1 hT2 hT3 hT4 hT5 hD
        refine ar_aload_n (j := 0) (q := 57) rfl rfl rfl rfl ?_
        refine ar_getf (v := .ref 66) (q := 60) rfl rfl mk_0 rfl rfl ?_
        refine ar_getf (v := .ref 67) (q := 63) rfl rfl mk_66 rfl rfl ?_
        refine ar_iload_n (j := 1) (q := 64) rfl rfl rfl rfl ?_
        obtain ⟨j_3, hx_4, hi_5, h⟩ := h
        refine ar_iald (v := I 67 j_3) (q := 65) rfl mk_67 (am_inE hi_5 hx_4 (by decide)) (am_clE hi_5 hx_4 (by decide)) rfl ?_
        exact ar_iret rfl rfl h
      · refine ⟨48, 66, by rw [e9]; rfl, rfl, ?_⟩
        have h := hT1 e9
        clear hT0 hT1 hT2 hT3 hT4 hT5 hD
        refine ar_aload_n (j := 0) (q := 67) rfl rfl rfl rfl ?_
        refine ar_getf (v := .ref 66) (q := 70) rfl rfl mk_0 rfl rfl ?_
        refine ar_getf (v := .ref 68) (q := 73) rfl rfl mk_66 rfl rfl ?_
        refine ar_iload_n (j := 1) (q := 74) rfl rfl rfl rfl ?_
        obtain ⟨j_6, hx_7, hi_8, h⟩ := h
        refine ar_iald (v := I 68 j_6) (q := 75) rfl mk_68 (am_inE hi_8 hx_7 (by decide)) (am_clE hi_8 hx_7 (by decide)) rfl ?_
        exact ar_iret rfl rfl h
      · refine ⟨58, 76, by rw [e9]; rfl, rfl, ?_⟩
        have h := hT2 e9
        clear hT0 hT1 hT2 hT3 hT4 hT5 hD
        refine ar_aload_n (j := 0) (q := 77) rfl rfl rfl rfl ?_
        refine ar_getf (v := .ref 66) (q := 80) rfl rfl mk_0 rfl rfl ?_
        refine ar_getf (v := .ref 69) (q := 83) rfl rfl mk_66 rfl rfl ?_
        refine ar_iload_n (j := 1) (q := 84) rfl rfl rfl rfl ?_
        obtain ⟨j_9, hx_10, hi_11, h⟩ := h
        refine ar_iald (v := I 69 j_9) (q := 85) rfl mk_69 (am_inE hi_11 hx_10 (by decide)) (am_clE hi_11 hx_10 (by decide)) rfl ?_
        exact ar_iret rfl rfl h
      · refine ⟨68, 86, by rw [e9]; rfl, rfl, ?_⟩
        have h := hT3 e9
        clear hT0 hT1 hT2 hT3 hT4 hT5 hD
        refine ar_aload_n (j := 0) (q := 87) rfl rfl rfl rfl ?_
        refine ar_getf (v := .ref 66) (q := 90) rfl rfl mk_0 rfl rfl ?_
        refine ar_getf (v := .ref 70) (q := 93) rfl rfl mk_66 rfl rfl ?_
        refine ar_iload_n (j := 1) (q := 94) rfl rfl rfl rfl ?_
        obtain ⟨j_12, hx_13, hi_14, h⟩ := h
        refine ar_iald (v := I 70 j_12) (q := 95) rfl mk_70 (am_inE hi_14 hx_13 (by decide)) (am_clE hi_14 hx_13 (by decide)) rfl ?_
        exact ar_iret rfl rfl h
      · refine ⟨78, 96, by rw [e9]; rfl, rfl, ?_⟩
        have h := hT4 e9
        clear hT0 hT1 hT2 hT3 hT4 hT5 hD
        refine ar_aload_n (j := 0) (q := 97) rfl rfl rfl rfl ?_
        refine ar_getf (v := .ref 66) (q := 100) rfl rfl mk_0 rfl rfl ?_
        refine ar_getf (v := .ref 71) (q := 103) rfl rfl mk_66 rfl rfl ?_
        refine ar_iload_n (j := 1) (q := 104) rfl rfl rfl rfl ?_
        obtain ⟨j_15, hx_16, hi_17, h⟩ := h
        refine ar_iald (v := I 71 j_15) (q := 105) rfl mk_71 (am_inE hi_17 hx_16 (by decide)) (am_clE hi_17 hx_16 (by decide)) rfl ?_
        exact ar_iret rfl rfl h
      · refine ⟨88, 106, by rw [e9]; rfl, rfl, ?_⟩
        have h := hT5 e9
        clear hT0 hT1 hT2 hT3 hT4 hT5 hD
        refine ar_aload_n (j := 0) (q := 107) rfl rfl rfl rfl ?_
        refine ar_getf (v := .ref 66) (q := 110) rfl rfl mk_0 rfl rfl ?_
        refine ar_iload_n (j := 1) (q := 111) rfl rfl rfl rfl ?_
        refine ar_invv (as := [.int s]) (rest := []) (b2 := (0, 0)) (b3 := (0, 0)) (q := 114) rfl rfl rfl rfl mk_66 rfl rfl rfl rfl rfl ?_
        obtain ⟨j_18, hi_19, h⟩ := h
        obtain ⟨hp_21, h⟩ := h
        obtain ⟨hA, hB⟩ := h
        refine ok_St_isOver (by omega) hi_19 hp_21 (fun c_20 => ?_) (fun c_20 => ?_)
        · have h := hA c_20
          clear hA hB
          show am_Run am_X0 (am_meth d) 10 R 114 [some (.ref 0), some (.int s), some (.int w)] [.int 1] (am_mk I L, 0, 0)
          refine ar_b0 am_c_eq (t := 121) (q := 117) rfl rfl rfl (fun c9 => absurd c9 (by decide)) (fun _ => ?_)
          refine ar_iconst (v := 1) (q := 118) rfl rfl rfl ?_
          refine ar_goto (t := 122) rfl rfl ?_
          exact ar_iret rfl rfl h
        · have h := hB c_20
          clear hA hB
          show am_Run am_X0 (am_meth d) 10 R 114 [some (.ref 0), some (.int s), some (.int w)] [.int 0] (am_mk I L, 0, 0)
          refine ar_b0 am_c_eq (t := 121) (q := 117) rfl rfl rfl (fun _ => ?_) (fun c9 => absurd (by decide) c9)
          refine ar_iconst (v := 0) (q := 122) rfl rfl rfl ?_
          exact ar_iret rfl rfl h
  · have h := hB c_1
    clear hA hB
    show am_Run am_X0 (am_meth d) 10 R 8 [some (.ref 0), some (.int s), some (.int w)] [.int 0] (am_mk I L, 0, 0)
    refine ar_b0 am_c_ne (t := 17) (q := 11) rfl rfl rfl (fun c9 => absurd (by decide) c9) (fun _ => ?_)
    refine ar_aload_n (j := 0) (q := 12) rfl rfl rfl rfl ?_
    refine ar_iconst (v := (-1 : Int32)) (q := 13) rfl rfl rfl ?_
    refine ar_invv (as := [.int (-1 : Int32)]) (rest := []) (b2 := (0, 0)) (b3 := (0, 0)) (q := 16) rfl rfl rfl rfl mk_0 rfl rfl rfl rfl rfl ?_
    refine ok_refuse (j := 1) (by omega) (by decide) (by decide) ?_
    show am_Run am_X0 (am_meth d) 10 R 16 [some (.ref 0), some (.int s), some (.int w)] [.int (-1 : Int32)] (am_mk (am_rf I 1) L, 0, 0)
    exact ar_iret rfl rfl h
theorem r_H_cancel_0 {d : Nat} (hd : 1 ≤ d) {R : am_R} {I : Nat → Nat → Int32} {L : Nat → Nat → Int64} {s : Int32} (h : ((0 ≤ s ∧ s < I 66 1 → (∃ j_2 : Nat, s = nI j_2 ∧ ((j_2 < 60) ∧ (((I 69 j_2 < I 66 0 → (R (some (.int (-3 : Int32))) (am_mk (am_rf I 3) L, 0, 0))) ∧ (¬ (I 69 j_2 < I 66 0) → (∃ j_6 : Nat, j_6 < 60 ∧ s = nI j_6 ∧ ((((I 70 j_6) = 2 → (R (some (.int (-3 : Int32))) (am_mk (am_rf I 3) L, 0, 0))) ∧ (¬ (I 70 j_6) = 2 → (∀ I_10 : Nat → Nat → Int32, I_10 = va_up I 70 (upd (I 70) j_6 2) → (R (some (.int (I_10 71 j_6))) (am_mk I_10 L, 0, 0))))))))))))) ∧ (¬ (0 ≤ s ∧ s < I 66 1) → (R (some (.int (-1 : Int32))) (am_mk (am_rf I 1) L, 0, 0))))) : am_Run am_X0 (am_meth d) 13 R 0 [some (.ref 0), some (.int s)] [] (am_mk I L, 0, 0) := by
  refine ar_aload_n (j := 0) (q := 1) rfl rfl rfl rfl ?_
  refine ar_getf (v := .ref 66) (q := 4) rfl rfl mk_0 rfl rfl ?_
  refine ar_iload_n (j := 1) (q := 5) rfl rfl rfl rfl ?_
  refine ar_invv (as := [.int s]) (rest := []) (b2 := (0, 0)) (b3 := (0, 0)) (q := 8) rfl rfl rfl rfl mk_66 rfl rfl rfl rfl rfl ?_
  obtain ⟨hA, hB⟩ := h
  refine ok_St_has (by omega)  (fun c_1 => ?_) (fun c_1 => ?_)
  · have h := hA c_1
    clear hA hB
    show am_Run am_X0 (am_meth d) 13 R 8 [some (.ref 0), some (.int s)] [.int 1] (am_mk I L, 0, 0)
    refine ar_b0 am_c_ne (t := 17) (q := 11) rfl rfl rfl (fun _ => ?_) (fun c9 => absurd (by decide) c9)
    refine ar_aload_n (j := 0) (q := 18) rfl rfl rfl rfl ?_
    refine ar_getf (v := .ref 66) (q := 21) rfl rfl mk_0 rfl rfl ?_
    refine ar_iload_n (j := 1) (q := 22) rfl rfl rfl rfl ?_
    refine ar_invv (as := [.int s]) (rest := []) (b2 := (0, 0)) (b3 := (0, 0)) (q := 25) rfl rfl rfl rfl mk_66 rfl rfl rfl rfl rfl ?_
    obtain ⟨j_2, hi_3, h⟩ := h
    obtain ⟨hp_5, h⟩ := h
    obtain ⟨hA, hB⟩ := h
    refine ok_St_isOver (by omega) hi_3 hp_5 (fun c_4 => ?_) (fun c_4 => ?_)
    · have h := hA c_4
      clear hA hB
      show am_Run am_X0 (am_meth d) 13 R 25 [some (.ref 0), some (.int s)] [.int 1] (am_mk I L, 0, 0)
      refine ar_b0 am_c_ne (t := 41) (q := 28) rfl rfl rfl (fun _ => ?_) (fun c9 => absurd (by decide) c9)
      refine ar_aload_n (j := 0) (q := 42) rfl rfl rfl rfl ?_
      refine ar_bipush (v := (-3 : Int32)) (q := 44) rfl rfl rfl ?_
      refine ar_invv (as := [.int (-3 : Int32)]) (rest := []) (b2 := (0, 0)) (b3 := (0, 0)) (q := 47) rfl rfl rfl rfl mk_0 rfl rfl rfl rfl rfl ?_
      refine ok_refuse (j := 3) (by omega) (by decide) (by decide) ?_
      show am_Run am_X0 (am_meth d) 13 R 47 [some (.ref 0), some (.int s)] [.int (-3 : Int32)] (am_mk (am_rf I 3) L, 0, 0)
      exact ar_iret rfl rfl h
    · have h := hB c_4
      clear hA hB
      show am_Run am_X0 (am_meth d) 13 R 25 [some (.ref 0), some (.int s)] [.int 0] (am_mk I L, 0, 0)
      refine ar_b0 am_c_ne (t := 41) (q := 28) rfl rfl rfl (fun c9 => absurd (by decide) c9) (fun _ => ?_)
      refine ar_aload_n (j := 0) (q := 29) rfl rfl rfl rfl ?_
      refine ar_getf (v := .ref 66) (q := 32) rfl rfl mk_0 rfl rfl ?_
      refine ar_getf (v := .ref 70) (q := 35) rfl rfl mk_66 rfl rfl ?_
      refine ar_iload_n (j := 1) (q := 36) rfl rfl rfl rfl ?_
      obtain ⟨j_6, hx_7, hi_8, h⟩ := h
      refine ar_iald (v := I 70 j_6) (q := 37) rfl mk_70 (am_inE hi_8 hx_7 (by decide)) (am_clE hi_8 hx_7 (by decide)) rfl ?_
      refine ar_iconst (v := 2) (q := 38) rfl rfl rfl ?_
      obtain ⟨hA, hB⟩ := h
      refine ar_br am_c_ne (t := 48) (q := 41) rfl rfl rfl (fun c_9 => ?_) (fun c_9 => ?_)
      · have h := hB c_9
        clear hA hB
        refine ar_aload_n (j := 0) (q := 49) rfl rfl rfl rfl ?_
        refine ar_getf (v := .ref 66) (q := 52) rfl rfl mk_0 rfl rfl ?_
        refine ar_getf (v := .ref 70) (q := 55) rfl rfl mk_66 rfl rfl ?_
        refine ar_iload_n (j := 1) (q := 56) rfl rfl rfl rfl ?_
        refine ar_iconst (v := 2) (q := 57) rfl rfl rfl ?_
        obtain ⟨I_10, hI_11⟩ : ∃ z : Nat → Nat → Int32, z = va_up I 70 (upd (I 70) j_6 2) := ⟨_, rfl⟩
        have h := h I_10 hI_11
        refine ar_iast (hp2 := am_mk I_10 L) (q := 58) rfl mk_70 (am_inE hi_8 hx_7 (by decide)) (by rw [am_clT hi_8 hx_7 (by decide), hI_11]; exact mk_s70) rfl ?_
        refine ar_aload_n (j := 0) (q := 59) rfl rfl rfl rfl ?_
        refine ar_getf (v := .ref 66) (q := 62) rfl rfl mk_0 rfl rfl ?_
        refine ar_getf (v := .ref 71) (q := 65) rfl rfl mk_66 rfl rfl ?_
        refine ar_iload_n (j := 1) (q := 66) rfl rfl rfl rfl ?_
        refine ar_iald (v := I_10 71 j_6) (q := 67) rfl mk_71 (am_inE hi_8 hx_7 (by decide)) (am_clE hi_8 hx_7 (by decide)) rfl ?_
        exact ar_iret rfl rfl h
      · have c_9 := Classical.not_not.mp c_9
        have h := hA c_9
        clear hA hB
        refine ar_aload_n (j := 0) (q := 42) rfl rfl rfl rfl ?_
        refine ar_bipush (v := (-3 : Int32)) (q := 44) rfl rfl rfl ?_
        refine ar_invv (as := [.int (-3 : Int32)]) (rest := []) (b2 := (0, 0)) (b3 := (0, 0)) (q := 47) rfl rfl rfl rfl mk_0 rfl rfl rfl rfl rfl ?_
        refine ok_refuse (j := 3) (by omega) (by decide) (by decide) ?_
        show am_Run am_X0 (am_meth d) 13 R 47 [some (.ref 0), some (.int s)] [.int (-3 : Int32)] (am_mk (am_rf I 3) L, 0, 0)
        exact ar_iret rfl rfl h
  · have h := hB c_1
    clear hA hB
    show am_Run am_X0 (am_meth d) 13 R 8 [some (.ref 0), some (.int s)] [.int 0] (am_mk I L, 0, 0)
    refine ar_b0 am_c_ne (t := 17) (q := 11) rfl rfl rfl (fun c9 => absurd (by decide) c9) (fun _ => ?_)
    refine ar_aload_n (j := 0) (q := 12) rfl rfl rfl rfl ?_
    refine ar_iconst (v := (-1 : Int32)) (q := 13) rfl rfl rfl ?_
    refine ar_invv (as := [.int (-1 : Int32)]) (rest := []) (b2 := (0, 0)) (b3 := (0, 0)) (q := 16) rfl rfl rfl rfl mk_0 rfl rfl rfl rfl rfl ?_
    refine ok_refuse (j := 1) (by omega) (by decide) (by decide) ?_
    show am_Run am_X0 (am_meth d) 13 R 16 [some (.ref 0), some (.int s)] [.int (-1 : Int32)] (am_mk (am_rf I 1) L, 0, 0)
    exact ar_iret rfl rfl h
theorem r_H_unput_0 {d : Nat} (hd : 1 ≤ d) {R : am_R} {I : Nat → Nat → Int32} {L : Nat → Nat → Int64}  (h : R (some (.int (I 95 0))) (am_mk (va_up I 95 (upd (I 95) 0 0)) L, 0, 0)) : am_Run am_X0 (am_meth d) 26 R 0 [some (.ref 0), none] [] (am_mk I L, 0, 0) := by
  refine ar_aload_n (j := 0) (q := 1) rfl rfl rfl rfl ?_
  refine ar_getf (v := .ref 95) (q := 4) rfl rfl mk_0 rfl rfl ?_
  refine ar_getf (v := .int (I 95 0)) (q := 7) rfl rfl mk_95 rfl rfl ?_
  refine ar_istore_n (j := 1) (ls' := [some (.ref 0), some (.int (I 95 0))]) (q := 8) rfl rfl rfl rfl rfl ?_
  refine ar_aload_n (j := 0) (q := 9) rfl rfl rfl rfl ?_
  refine ar_getf (v := .ref 95) (q := 12) rfl rfl mk_0 rfl rfl ?_
  refine ar_invv (as := []) (rest := []) (b2 := (0, 0)) (b3 := (0, 0)) (q := 15) rfl rfl rfl rfl mk_95 rfl rfl rfl rfl rfl ?_
  refine ok_Ro_clear_row (by omega)  ?_
  show am_Run am_X0 (am_meth d) 26 R 15 [some (.ref 0), some (.int (I 95 0))] [] (am_mk (va_up I 95 (upd (I 95) 0 0)) L, 0, 0)
  refine ar_iload_n (j := 1) (q := 16) rfl rfl rfl rfl ?_
  exact ar_iret rfl rfl h
theorem r_H_wish_0 {d : Nat} (hd : 1 ≤ d) {R : am_R} {I : Nat → Nat → Int32} {L : Nat → Nat → Int64} {k : Int32} {l : Int32} {v : Int32} (h : ((0 ≤ k ∧ k < I 16 0 → (((0 ≤ l ∧ l < 5 → (((v < 0 → (R (some (.int (-4 : Int32))) (am_mk (am_rf I 4) L, 0, 0))) ∧ ((¬ v < 0 ∧ 99 < v) → (R (some (.int (-6 : Int32))) (am_mk (am_rf I 6) L, 0, 0))) ∧ ((¬ v < 0 ∧ ¬ 99 < v) → (∃ j_4 : Nat, j_4 < 20 ∧ k = nI j_4 ∧ (∃ j_7 : Nat, j_7 < 5 ∧ l = nI j_7 ∧ (∀ I_10 : Nat → Nat → Int32, I_10 = va_up I (22 + j_4) (upd (I (22 + j_4)) j_7 v) → (R (some (.int (I (22 + j_4) j_7))) (am_mk I_10 L, 0, 0))))))))) ∧ (¬ (0 ≤ l ∧ l < 5) → (R (some (.int (-1 : Int32))) (am_mk (am_rf I 1) L, 0, 0)))))) ∧ (¬ (0 ≤ k ∧ k < I 16 0) → (R (some (.int (-1 : Int32))) (am_mk (am_rf I 1) L, 0, 0))))) : am_Run am_X0 (am_meth d) 30 R 0 [some (.ref 0), some (.int k), some (.int l), some (.int v), none, none] [] (am_mk I L, 0, 0) := by
  refine ar_aload_n (j := 0) (q := 1) rfl rfl rfl rfl ?_
  refine ar_getf (v := .ref 16) (q := 4) rfl rfl mk_0 rfl rfl ?_
  refine ar_iload_n (j := 1) (q := 5) rfl rfl rfl rfl ?_
  refine ar_invv (as := [.int k]) (rest := []) (b2 := (0, 0)) (b3 := (0, 0)) (q := 8) rfl rfl rfl rfl mk_16 rfl rfl rfl rfl rfl ?_
  obtain ⟨hA, hB⟩ := h
  refine ok_Ke_has (by omega)  (fun c_1 => ?_) (fun c_1 => ?_)
  · have h := hA c_1
    clear hA hB
    show am_Run am_X0 (am_meth d) 30 R 8 [some (.ref 0), some (.int k), some (.int l), some (.int v), none, none] [.int 1] (am_mk I L, 0, 0)
    refine ar_b0 am_c_eq (t := 22) (q := 11) rfl rfl rfl (fun c9 => absurd c9 (by decide)) (fun _ => ?_)
    refine ar_aload_n (j := 0) (q := 12) rfl rfl rfl rfl ?_
    refine ar_getf (v := .ref 2) (q := 15) rfl rfl mk_0 rfl rfl ?_
    refine ar_iload_n (j := 2) (q := 16) rfl rfl rfl rfl ?_
    refine ar_invv (as := [.int l]) (rest := []) (b2 := (0, 0)) (b3 := (0, 0)) (q := 19) rfl rfl rfl rfl mk_2 rfl rfl rfl rfl rfl ?_
    obtain ⟨hA, hB⟩ := h
    refine ok_To_hasLand (by omega)  (fun c_2 => ?_) (fun c_2 => ?_)
    · have h := hA c_2
      clear hA hB
      show am_Run am_X0 (am_meth d) 30 R 19 [some (.ref 0), some (.int k), some (.int l), some (.int v), none, none] [.int 1] (am_mk I L, 0, 0)
      refine ar_b0 am_c_ne (t := 28) (q := 22) rfl rfl rfl (fun _ => ?_) (fun c9 => absurd (by decide) c9)
      refine ar_iload_n (j := 3) (q := 29) rfl rfl rfl rfl ?_
      refine ar_iconst (v := 0) (q := 30) rfl rfl rfl ?_
      refine ar_bipush (v := 99) (q := 32) rfl rfl rfl ?_
      refine ar_invs (as := [.int v, .int 0, .int 99]) (rest := []) (b2 := (0, 0)) (b3 := (0, 0)) (q := 35) rfl rfl rfl rfl rfl rfl rfl rfl rfl ?_
      obtain ⟨hC0, hC1, hC2⟩ := h
      refine ok_bound (by omega)  (fun c_3 => ?_) (fun c_3 => ?_) (fun c_3 => ?_)
      · have h := hC0 c_3
        clear hC0 hC1 hC2
        show am_Run am_X0 (am_meth d) 30 R 35 [some (.ref 0), some (.int k), some (.int l), some (.int v), none, none] [.int (-4 : Int32)] (am_mk I L, 0, 0)
        refine ar_istore (ls' := [some (.ref 0), some (.int k), some (.int l), some (.int v), some (.int (-4 : Int32)), none]) (q := 37) rfl rfl rfl rfl ?_
        refine ar_iload (q := 39) rfl rfl rfl ?_
        refine ar_b0 am_c_eq (t := 49) (q := 42) rfl rfl rfl (fun c9 => absurd c9 (by decide)) (fun _ => ?_)
        refine ar_aload_n (j := 0) (q := 43) rfl rfl rfl rfl ?_
        refine ar_iload (q := 45) rfl rfl rfl ?_
        refine ar_invv (as := [.int (-4 : Int32)]) (rest := []) (b2 := (0, 0)) (b3 := (0, 0)) (q := 48) rfl rfl rfl rfl mk_0 rfl rfl rfl rfl rfl ?_
        refine ok_refuse (j := 4) (by omega) (by decide) (by decide) ?_
        show am_Run am_X0 (am_meth d) 30 R 48 [some (.ref 0), some (.int k), some (.int l), some (.int v), some (.int (-4 : Int32)), none] [.int (-4 : Int32)] (am_mk (am_rf I 4) L, 0, 0)
        exact ar_iret rfl rfl h
      · have h := hC1 c_3
        clear hC0 hC1 hC2
        show am_Run am_X0 (am_meth d) 30 R 35 [some (.ref 0), some (.int k), some (.int l), some (.int v), none, none] [.int (-6 : Int32)] (am_mk I L, 0, 0)
        refine ar_istore (ls' := [some (.ref 0), some (.int k), some (.int l), some (.int v), some (.int (-6 : Int32)), none]) (q := 37) rfl rfl rfl rfl ?_
        refine ar_iload (q := 39) rfl rfl rfl ?_
        refine ar_b0 am_c_eq (t := 49) (q := 42) rfl rfl rfl (fun c9 => absurd c9 (by decide)) (fun _ => ?_)
        refine ar_aload_n (j := 0) (q := 43) rfl rfl rfl rfl ?_
        refine ar_iload (q := 45) rfl rfl rfl ?_
        refine ar_invv (as := [.int (-6 : Int32)]) (rest := []) (b2 := (0, 0)) (b3 := (0, 0)) (q := 48) rfl rfl rfl rfl mk_0 rfl rfl rfl rfl rfl ?_
        refine ok_refuse (j := 6) (by omega) (by decide) (by decide) ?_
        show am_Run am_X0 (am_meth d) 30 R 48 [some (.ref 0), some (.int k), some (.int l), some (.int v), some (.int (-6 : Int32)), none] [.int (-6 : Int32)] (am_mk (am_rf I 6) L, 0, 0)
        exact ar_iret rfl rfl h
      · have h := hC2 c_3
        clear hC0 hC1 hC2
        show am_Run am_X0 (am_meth d) 30 R 35 [some (.ref 0), some (.int k), some (.int l), some (.int v), none, none] [.int 0] (am_mk I L, 0, 0)
        refine ar_istore (ls' := [some (.ref 0), some (.int k), some (.int l), some (.int v), some (.int 0), none]) (q := 37) rfl rfl rfl rfl ?_
        refine ar_iload (q := 39) rfl rfl rfl ?_
        refine ar_b0 am_c_eq (t := 49) (q := 42) rfl rfl rfl (fun _ => ?_) (fun c9 => absurd (by decide) c9)
        refine ar_aload_n (j := 0) (q := 50) rfl rfl rfl rfl ?_
        refine ar_getf (v := .ref 16) (q := 53) rfl rfl mk_0 rfl rfl ?_
        refine ar_getf (v := .ref 21) (q := 56) rfl rfl mk_16 rfl rfl ?_
        refine ar_iload_n (j := 1) (q := 57) rfl rfl rfl rfl ?_
        obtain ⟨j_4, hx_5, hi_6, h⟩ := h
        refine ar_aald (c2 := 22 + j_4) (q := 58) rfl mk_21 (am_inE hi_6 hx_5 (by decide)) (congrArg (fun z => some (22 + z)) (am_clT hi_6 hx_5 (by decide))) rfl ?_
        refine ar_iload_n (j := 2) (q := 59) rfl rfl rfl rfl ?_
        obtain ⟨j_7, hx_8, hi_9, h⟩ := h
        refine ar_iald (v := I (22 + j_4) j_7) (q := 60) rfl (mk_g21 hx_5) (am_inE hi_9 hx_8 (by decide)) (am_clE hi_9 hx_8 (by decide)) rfl ?_
        refine ar_istore (ls' := [some (.ref 0), some (.int k), some (.int l), some (.int v), some (.int 0), some (.int (I (22 + j_4) j_7))]) (q := 62) rfl rfl rfl rfl ?_
        refine ar_aload_n (j := 0) (q := 63) rfl rfl rfl rfl ?_
        refine ar_getf (v := .ref 16) (q := 66) rfl rfl mk_0 rfl rfl ?_
        refine ar_getf (v := .ref 21) (q := 69) rfl rfl mk_16 rfl rfl ?_
        refine ar_iload_n (j := 1) (q := 70) rfl rfl rfl rfl ?_
        refine ar_aald (c2 := 22 + j_4) (q := 71) rfl mk_21 (am_inE hi_6 hx_5 (by decide)) (congrArg (fun z => some (22 + z)) (am_clT hi_6 hx_5 (by decide))) rfl ?_
        refine ar_iload_n (j := 2) (q := 72) rfl rfl rfl rfl ?_
        refine ar_iload_n (j := 3) (q := 73) rfl rfl rfl rfl ?_
        obtain ⟨I_10, hI_11⟩ : ∃ z : Nat → Nat → Int32, z = va_up I (22 + j_4) (upd (I (22 + j_4)) j_7 v) := ⟨_, rfl⟩
        have h := h I_10 hI_11
        refine ar_iast (hp2 := am_mk I_10 L) (q := 74) rfl (mk_g21 hx_5) (am_inE hi_9 hx_8 (by decide)) (by rw [am_clT hi_9 hx_8 (by decide), hI_11]; exact (mk_gs21 hx_5)) rfl ?_
        refine ar_iload (q := 76) rfl rfl rfl ?_
        exact ar_iret rfl rfl h
    · have h := hB c_2
      clear hA hB
      show am_Run am_X0 (am_meth d) 30 R 19 [some (.ref 0), some (.int k), some (.int l), some (.int v), none, none] [.int 0] (am_mk I L, 0, 0)
      refine ar_b0 am_c_ne (t := 28) (q := 22) rfl rfl rfl (fun c9 => absurd (by decide) c9) (fun _ => ?_)
      refine ar_aload_n (j := 0) (q := 23) rfl rfl rfl rfl ?_
      refine ar_iconst (v := (-1 : Int32)) (q := 24) rfl rfl rfl ?_
      refine ar_invv (as := [.int (-1 : Int32)]) (rest := []) (b2 := (0, 0)) (b3 := (0, 0)) (q := 27) rfl rfl rfl rfl mk_0 rfl rfl rfl rfl rfl ?_
      refine ok_refuse (j := 1) (by omega) (by decide) (by decide) ?_
      show am_Run am_X0 (am_meth d) 30 R 27 [some (.ref 0), some (.int k), some (.int l), some (.int v), none, none] [.int (-1 : Int32)] (am_mk (am_rf I 1) L, 0, 0)
      exact ar_iret rfl rfl h
  · have h := hB c_1
    clear hA hB
    show am_Run am_X0 (am_meth d) 30 R 8 [some (.ref 0), some (.int k), some (.int l), some (.int v), none, none] [.int 0] (am_mk I L, 0, 0)
    refine ar_b0 am_c_eq (t := 22) (q := 11) rfl rfl rfl (fun _ => ?_) (fun c9 => absurd (by decide) c9)
    refine ar_aload_n (j := 0) (q := 23) rfl rfl rfl rfl ?_
    refine ar_iconst (v := (-1 : Int32)) (q := 24) rfl rfl rfl ?_
    refine ar_invv (as := [.int (-1 : Int32)]) (rest := []) (b2 := (0, 0)) (b3 := (0, 0)) (q := 27) rfl rfl rfl rfl mk_0 rfl rfl rfl rfl rfl ?_
    refine ok_refuse (j := 1) (by omega) (by decide) (by decide) ?_
    show am_Run am_X0 (am_meth d) 30 R 27 [some (.ref 0), some (.int k), some (.int l), some (.int v), none, none] [.int (-1 : Int32)] (am_mk (am_rf I 1) L, 0, 0)
    exact ar_iret rfl rfl h
theorem r_H_look_0 {d : Nat} (hd : 1 ≤ d) {R : am_R} {I : Nat → Nat → Int32} {L : Nat → Nat → Int64} {a : Int32} {b : Int32} {v : Int32} (h : ((0 ≤ a ∧ a < I 42 0 → (((b < 0 → (R (some (.int (-4 : Int32))) (am_mk (am_rf I 4) L, 0, 0))) ∧ (¬ b < 0 → (((v < 0 → (R (some (.int (-4 : Int32))) (am_mk (am_rf I 4) L, 0, 0))) ∧ (¬ v < 0 → (((b < 31 → (((v ≤ 9 → (∃ j_6 : Nat, j_6 < 20 ∧ a = nI j_6 ∧ (∃ j_9 : Nat, j_9 < 31 ∧ b = nI j_9 ∧ (∀ I_12 : Nat → Nat → Int32, I_12 = va_up I (46 + j_6) (upd (I (46 + j_6)) j_9 v) → (R (some (.int (I (46 + j_6) j_9))) (am_mk I_12 L, 0, 0)))))) ∧ (¬ v ≤ 9 → (R (some (.int (-6 : Int32))) (am_mk (am_rf I 6) L, 0, 0)))))) ∧ (¬ b < 31 → (R (some (.int (-6 : Int32))) (am_mk (am_rf I 6) L, 0, 0)))))))))))) ∧ (¬ (0 ≤ a ∧ a < I 42 0) → (R (some (.int (-1 : Int32))) (am_mk (am_rf I 1) L, 0, 0))))) : am_Run am_X0 (am_meth d) 39 R 0 [some (.ref 0), some (.int a), some (.int b), some (.int v), none] [] (am_mk I L, 0, 0) := by
  refine ar_aload_n (j := 0) (q := 1) rfl rfl rfl rfl ?_
  refine ar_getf (v := .ref 42) (q := 4) rfl rfl mk_0 rfl rfl ?_
  refine ar_iload_n (j := 1) (q := 5) rfl rfl rfl rfl ?_
  refine ar_invv (as := [.int a]) (rest := []) (b2 := (0, 0)) (b3 := (0, 0)) (q := 8) rfl rfl rfl rfl mk_42 rfl rfl rfl rfl rfl ?_
  obtain ⟨hA, hB⟩ := h
  refine ok_Ho_has (by omega)  (fun c_1 => ?_) (fun c_1 => ?_)
  · have h := hA c_1
    clear hA hB
    show am_Run am_X0 (am_meth d) 39 R 8 [some (.ref 0), some (.int a), some (.int b), some (.int v), none] [.int 1] (am_mk I L, 0, 0)
    refine ar_b0 am_c_ne (t := 17) (q := 11) rfl rfl rfl (fun _ => ?_) (fun c9 => absurd (by decide) c9)
    refine ar_iload_n (j := 2) (q := 18) rfl rfl rfl rfl ?_
    obtain ⟨hA, hB⟩ := h
    refine ar_b0 am_c_lt (t := 25) (q := 21) rfl rfl rfl (fun c_2 => ?_) (fun c_2 => ?_)
    · have h := hA c_2
      clear hA hB
      refine ar_aload_n (j := 0) (q := 26) rfl rfl rfl rfl ?_
      refine ar_bipush (v := (-4 : Int32)) (q := 28) rfl rfl rfl ?_
      refine ar_invv (as := [.int (-4 : Int32)]) (rest := []) (b2 := (0, 0)) (b3 := (0, 0)) (q := 31) rfl rfl rfl rfl mk_0 rfl rfl rfl rfl rfl ?_
      refine ok_refuse (j := 4) (by omega) (by decide) (by decide) ?_
      show am_Run am_X0 (am_meth d) 39 R 31 [some (.ref 0), some (.int a), some (.int b), some (.int v), none] [.int (-4 : Int32)] (am_mk (am_rf I 4) L, 0, 0)
      exact ar_iret rfl rfl h
    · have h := hB c_2
      clear hA hB
      refine ar_iload_n (j := 3) (q := 22) rfl rfl rfl rfl ?_
      obtain ⟨hA, hB⟩ := h
      refine ar_b0 am_d_ge (t := 32) (q := 25) rfl rfl rfl (fun c_3 => ?_) (fun c_3 => ?_)
      · have h := hB c_3
        clear hA hB
        refine ar_iload_n (j := 2) (q := 33) rfl rfl rfl rfl ?_
        refine ar_bipush (v := 31) (q := 35) rfl rfl rfl ?_
        obtain ⟨hA, hB⟩ := h
        refine ar_br am_d_ge (t := 44) (q := 38) rfl rfl rfl (fun c_4 => ?_) (fun c_4 => ?_)
        · have h := hB c_4
          clear hA hB
          refine ar_aload_n (j := 0) (q := 45) rfl rfl rfl rfl ?_
          refine ar_bipush (v := (-6 : Int32)) (q := 47) rfl rfl rfl ?_
          refine ar_invv (as := [.int (-6 : Int32)]) (rest := []) (b2 := (0, 0)) (b3 := (0, 0)) (q := 50) rfl rfl rfl rfl mk_0 rfl rfl rfl rfl rfl ?_
          refine ok_refuse (j := 6) (by omega) (by decide) (by decide) ?_
          show am_Run am_X0 (am_meth d) 39 R 50 [some (.ref 0), some (.int a), some (.int b), some (.int v), none] [.int (-6 : Int32)] (am_mk (am_rf I 6) L, 0, 0)
          exact ar_iret rfl rfl h
        · have c_4 := Classical.not_not.mp c_4
          have h := hA c_4
          clear hA hB
          refine ar_iload_n (j := 3) (q := 39) rfl rfl rfl rfl ?_
          refine ar_bipush (v := 9) (q := 41) rfl rfl rfl ?_
          obtain ⟨hA, hB⟩ := h
          refine ar_br am_c_le (t := 51) (q := 44) rfl rfl rfl (fun c_5 => ?_) (fun c_5 => ?_)
          · have h := hA c_5
            clear hA hB
            refine ar_aload_n (j := 0) (q := 52) rfl rfl rfl rfl ?_
            refine ar_getf (v := .ref 42) (q := 55) rfl rfl mk_0 rfl rfl ?_
            refine ar_getf (v := .ref 45) (q := 58) rfl rfl mk_42 rfl rfl ?_
            refine ar_iload_n (j := 1) (q := 59) rfl rfl rfl rfl ?_
            obtain ⟨j_6, hx_7, hi_8, h⟩ := h
            refine ar_aald (c2 := 46 + j_6) (q := 60) rfl mk_45 (am_inE hi_8 hx_7 (by decide)) (congrArg (fun z => some (46 + z)) (am_clT hi_8 hx_7 (by decide))) rfl ?_
            refine ar_iload_n (j := 2) (q := 61) rfl rfl rfl rfl ?_
            obtain ⟨j_9, hx_10, hi_11, h⟩ := h
            refine ar_iald (v := I (46 + j_6) j_9) (q := 62) rfl (mk_g45 hx_7) (am_inE hi_11 hx_10 (by decide)) (am_clE hi_11 hx_10 (by decide)) rfl ?_
            refine ar_istore (ls' := [some (.ref 0), some (.int a), some (.int b), some (.int v), some (.int (I (46 + j_6) j_9))]) (q := 64) rfl rfl rfl rfl ?_
            refine ar_aload_n (j := 0) (q := 65) rfl rfl rfl rfl ?_
            refine ar_getf (v := .ref 42) (q := 68) rfl rfl mk_0 rfl rfl ?_
            refine ar_getf (v := .ref 45) (q := 71) rfl rfl mk_42 rfl rfl ?_
            refine ar_iload_n (j := 1) (q := 72) rfl rfl rfl rfl ?_
            refine ar_aald (c2 := 46 + j_6) (q := 73) rfl mk_45 (am_inE hi_8 hx_7 (by decide)) (congrArg (fun z => some (46 + z)) (am_clT hi_8 hx_7 (by decide))) rfl ?_
            refine ar_iload_n (j := 2) (q := 74) rfl rfl rfl rfl ?_
            refine ar_iload_n (j := 3) (q := 75) rfl rfl rfl rfl ?_
            obtain ⟨I_12, hI_13⟩ : ∃ z : Nat → Nat → Int32, z = va_up I (46 + j_6) (upd (I (46 + j_6)) j_9 v) := ⟨_, rfl⟩
            have h := h I_12 hI_13
            refine ar_iast (hp2 := am_mk I_12 L) (q := 76) rfl (mk_g45 hx_7) (am_inE hi_11 hx_10 (by decide)) (by rw [am_clT hi_11 hx_10 (by decide), hI_13]; exact (mk_gs45 hx_7)) rfl ?_
            refine ar_iload (q := 78) rfl rfl rfl ?_
            exact ar_iret rfl rfl h
          · have h := hB c_5
            clear hA hB
            refine ar_aload_n (j := 0) (q := 45) rfl rfl rfl rfl ?_
            refine ar_bipush (v := (-6 : Int32)) (q := 47) rfl rfl rfl ?_
            refine ar_invv (as := [.int (-6 : Int32)]) (rest := []) (b2 := (0, 0)) (b3 := (0, 0)) (q := 50) rfl rfl rfl rfl mk_0 rfl rfl rfl rfl rfl ?_
            refine ok_refuse (j := 6) (by omega) (by decide) (by decide) ?_
            show am_Run am_X0 (am_meth d) 39 R 50 [some (.ref 0), some (.int a), some (.int b), some (.int v), none] [.int (-6 : Int32)] (am_mk (am_rf I 6) L, 0, 0)
            exact ar_iret rfl rfl h
      · have c_3 := Classical.not_not.mp c_3
        have h := hA c_3
        clear hA hB
        refine ar_aload_n (j := 0) (q := 26) rfl rfl rfl rfl ?_
        refine ar_bipush (v := (-4 : Int32)) (q := 28) rfl rfl rfl ?_
        refine ar_invv (as := [.int (-4 : Int32)]) (rest := []) (b2 := (0, 0)) (b3 := (0, 0)) (q := 31) rfl rfl rfl rfl mk_0 rfl rfl rfl rfl rfl ?_
        refine ok_refuse (j := 4) (by omega) (by decide) (by decide) ?_
        show am_Run am_X0 (am_meth d) 39 R 31 [some (.ref 0), some (.int a), some (.int b), some (.int v), none] [.int (-4 : Int32)] (am_mk (am_rf I 4) L, 0, 0)
        exact ar_iret rfl rfl h
  · have h := hB c_1
    clear hA hB
    show am_Run am_X0 (am_meth d) 39 R 8 [some (.ref 0), some (.int a), some (.int b), some (.int v), none] [.int 0] (am_mk I L, 0, 0)
    refine ar_b0 am_c_ne (t := 17) (q := 11) rfl rfl rfl (fun c9 => absurd (by decide) c9) (fun _ => ?_)
    refine ar_aload_n (j := 0) (q := 12) rfl rfl rfl rfl ?_
    refine ar_iconst (v := (-1 : Int32)) (q := 13) rfl rfl rfl ?_
    refine ar_invv (as := [.int (-1 : Int32)]) (rest := []) (b2 := (0, 0)) (b3 := (0, 0)) (q := 16) rfl rfl rfl rfl mk_0 rfl rfl rfl rfl rfl ?_
    refine ok_refuse (j := 1) (by omega) (by decide) (by decide) ?_
    show am_Run am_X0 (am_meth d) 39 R 16 [some (.ref 0), some (.int a), some (.int b), some (.int v), none] [.int (-1 : Int32)] (am_mk (am_rf I 1) L, 0, 0)
    exact ar_iret rfl rfl h
theorem r_H_gone_0 {d : Nat} (hd : 1 ≤ d) {R : am_R} {I : Nat → Nat → Int32} {L : Nat → Nat → Int64} {s : Int32} (h : ((0 ≤ s ∧ s < I 66 1 → (∃ j_2 : Nat, s = nI j_2 ∧ ((j_2 < 60) ∧ (((¬ I 72 j_2 = -1 ∧ ¬ I 73 j_2 = -1 → (∃ j_6 : Nat, s = nI j_6 ∧ ((j_6 < 60) ∧ (R (some (.int (I 72 j_6 &&& (I 73 j_6 ^^^ -1)))) (am_mk I L, 0, 0))))) ∧ (¬ (¬ I 72 j_2 = -1 ∧ ¬ I 73 j_2 = -1) → (R (some (.int (-9 : Int32))) (am_mk I L, 0, 0)))))))) ∧ (¬ (0 ≤ s ∧ s < I 66 1) → (R (some (.int (-1 : Int32))) (am_mk (am_rf I 1) L, 0, 0))))) : am_Run am_X0 (am_meth d) 40 R 0 [some (.ref 0), some (.int s)] [] (am_mk I L, 0, 0) := by
  refine ar_aload_n (j := 0) (q := 1) rfl rfl rfl rfl ?_
  refine ar_getf (v := .ref 66) (q := 4) rfl rfl mk_0 rfl rfl ?_
  refine ar_iload_n (j := 1) (q := 5) rfl rfl rfl rfl ?_
  refine ar_invv (as := [.int s]) (rest := []) (b2 := (0, 0)) (b3 := (0, 0)) (q := 8) rfl rfl rfl rfl mk_66 rfl rfl rfl rfl rfl ?_
  obtain ⟨hA, hB⟩ := h
  refine ok_St_has (by omega)  (fun c_1 => ?_) (fun c_1 => ?_)
  · have h := hA c_1
    clear hA hB
    show am_Run am_X0 (am_meth d) 40 R 8 [some (.ref 0), some (.int s)] [.int 1] (am_mk I L, 0, 0)
    refine ar_b0 am_c_ne (t := 17) (q := 11) rfl rfl rfl (fun _ => ?_) (fun c9 => absurd (by decide) c9)
    refine ar_aload_n (j := 0) (q := 18) rfl rfl rfl rfl ?_
    refine ar_getf (v := .ref 66) (q := 21) rfl rfl mk_0 rfl rfl ?_
    refine ar_iload_n (j := 1) (q := 22) rfl rfl rfl rfl ?_
    refine ar_invv (as := [.int s]) (rest := []) (b2 := (0, 0)) (b3 := (0, 0)) (q := 25) rfl rfl rfl rfl mk_66 rfl rfl rfl rfl rfl ?_
    obtain ⟨j_2, hi_3, h⟩ := h
    obtain ⟨hp_5, h⟩ := h
    obtain ⟨hA, hB⟩ := h
    refine ok_St_hasBothLists (by omega) hi_3 hp_5 (fun c_4 => ?_) (fun c_4 => ?_)
    · have h := hA c_4
      clear hA hB
      show am_Run am_X0 (am_meth d) 40 R 25 [some (.ref 0), some (.int s)] [.int 1] (am_mk I L, 0, 0)
      refine ar_b0 am_c_eq (t := 39) (q := 28) rfl rfl rfl (fun c9 => absurd c9 (by decide)) (fun _ => ?_)
      refine ar_aload_n (j := 0) (q := 29) rfl rfl rfl rfl ?_
      refine ar_getf (v := .ref 66) (q := 32) rfl rfl mk_0 rfl rfl ?_
      refine ar_iload_n (j := 1) (q := 33) rfl rfl rfl rfl ?_
      refine ar_invv (as := [.int s]) (rest := []) (b2 := (0, 0)) (b3 := (0, 0)) (q := 36) rfl rfl rfl rfl mk_66 rfl rfl rfl rfl rfl ?_
      obtain ⟨j_6, hi_7, h⟩ := h
      obtain ⟨hp_8, h⟩ := h
      refine ok_St_itemsGone (by omega) hi_7 hp_8 ?_
      show am_Run am_X0 (am_meth d) 40 R 36 [some (.ref 0), some (.int s)] [.int (I 72 j_6 &&& (I 73 j_6 ^^^ -1))] (am_mk I L, 0, 0)
      refine ar_goto (t := 41) rfl rfl ?_
      exact ar_iret rfl rfl h
    · have h := hB c_4
      clear hA hB
      show am_Run am_X0 (am_meth d) 40 R 25 [some (.ref 0), some (.int s)] [.int 0] (am_mk I L, 0, 0)
      refine ar_b0 am_c_eq (t := 39) (q := 28) rfl rfl rfl (fun _ => ?_) (fun c9 => absurd (by decide) c9)
      refine ar_bipush (v := (-9 : Int32)) (q := 41) rfl rfl rfl ?_
      exact ar_iret rfl rfl h
  · have h := hB c_1
    clear hA hB
    show am_Run am_X0 (am_meth d) 40 R 8 [some (.ref 0), some (.int s)] [.int 0] (am_mk I L, 0, 0)
    refine ar_b0 am_c_ne (t := 17) (q := 11) rfl rfl rfl (fun c9 => absurd (by decide) c9) (fun _ => ?_)
    refine ar_aload_n (j := 0) (q := 12) rfl rfl rfl rfl ?_
    refine ar_iconst (v := (-1 : Int32)) (q := 13) rfl rfl rfl ?_
    refine ar_invv (as := [.int (-1 : Int32)]) (rest := []) (b2 := (0, 0)) (b3 := (0, 0)) (q := 16) rfl rfl rfl rfl mk_0 rfl rfl rfl rfl rfl ?_
    refine ok_refuse (j := 1) (by omega) (by decide) (by decide) ?_
    show am_Run am_X0 (am_meth d) 40 R 16 [some (.ref 0), some (.int s)] [.int (-1 : Int32)] (am_mk (am_rf I 1) L, 0, 0)
    exact ar_iret rfl rfl h
theorem r_H_list_0 {d : Nat} (hd : 1 ≤ d) {R : am_R} {I : Nat → Nat → Int32} {L : Nat → Nat → Int64} {s : Int32} {a : Int32} {x : Int32} (h : ((0 ≤ s ∧ s < I 66 1 → (((a = 0 → (∃ j_3 : Nat, j_3 < 60 ∧ s = nI j_3 ∧ ((((I 66 0) ≤ (I 68 j_3) → ((((I 70 j_3) = 1 → (((x < 0 → (R (some (.int (-4 : Int32))) (am_mk (am_rf I 4) L, 0, 0))) ∧ (¬ x < 0 → ((((I 72 j_3) = (-1 : Int32) → (∀ I_10 : Nat → Nat → Int32, I_10 = va_up I 72 (upd (I 72) j_3 x) → (R (some (.int 1)) (am_mk I_10 L, 0, 0)))) ∧ (¬ (I 72 j_3) = (-1 : Int32) → (∀ I_12 : Nat → Nat → Int32, I_12 = va_up I 72 (upd (I 72) j_3 x) → (R (some (.int 0)) (am_mk I_12 L, 0, 0)))))))))) ∧ (¬ (I 70 j_3) = 1 → (R (some (.int (-3 : Int32))) (am_mk (am_rf I 3) L, 0, 0)))))) ∧ (¬ (I 66 0) ≤ (I 68 j_3) → ((((I 70 j_3) = 1 → (R (some (.int (-3 : Int32))) (am_mk (am_rf I 3) L, 0, 0))) ∧ (¬ (I 70 j_3) = 1 → (R (some (.int (-3 : Int32))) (am_mk (am_rf I 3) L, 0, 0)))))))))) ∧ (¬ a = 0 → (∃ j_15 : Nat, s = nI j_15 ∧ ((j_15 < 60) ∧ (((I 69 j_15 < I 66 0 → (∃ j_19 : Nat, j_19 < 60 ∧ s = nI j_19 ∧ ((((I 70 j_19) = 1 → (((x < 0 → (R (some (.int (-4 : Int32))) (am_mk (am_rf I 4) L, 0, 0))) ∧ (¬ x < 0 → ((((I 73 j_19) = (-1 : Int32) → (∀ I_25 : Nat → Nat → Int32, I_25 = va_up I 73 (upd (I 73) j_19 x) → (R (some (.int 1)) (am_mk I_25 L, 0, 0)))) ∧ (¬ (I 73 j_19) = (-1 : Int32) → (∀ I_27 : Nat → Nat → Int32, I_27 = va_up I 73 (upd (I 73) j_19 x) → (R (some (.int 0)) (am_mk I_27 L, 0, 0)))))))))) ∧ (¬ (I 70 j_19) = 1 → (R (some (.int (-3 : Int32))) (am_mk (am_rf I 3) L, 0, 0))))))) ∧ (¬ (I 69 j_15 < I 66 0) → (∃ j_29 : Nat, j_29 < 60 ∧ s = nI j_29 ∧ ((((I 70 j_29) = 1 → (R (some (.int (-3 : Int32))) (am_mk (am_rf I 3) L, 0, 0))) ∧ (¬ (I 70 j_29) = 1 → (R (some (.int (-3 : Int32))) (am_mk (am_rf I 3) L, 0, 0))))))))))))))) ∧ (¬ (0 ≤ s ∧ s < I 66 1) → (R (some (.int (-1 : Int32))) (am_mk (am_rf I 1) L, 0, 0))))) : am_Run am_X0 (am_meth d) 38 R 0 [some (.ref 0), some (.int s), some (.int a), some (.int x), none, none, none] [] (am_mk I L, 0, 0) := by
  refine ar_aload_n (j := 0) (q := 1) rfl rfl rfl rfl ?_
  refine ar_getf (v := .ref 66) (q := 4) rfl rfl mk_0 rfl rfl ?_
  refine ar_iload_n (j := 1) (q := 5) rfl rfl rfl rfl ?_
  refine ar_invv (as := [.int s]) (rest := []) (b2 := (0, 0)) (b3 := (0, 0)) (q := 8) rfl rfl rfl rfl mk_66 rfl rfl rfl rfl rfl ?_
  obtain ⟨hA, hB⟩ := h
  refine ok_St_has (by omega)  (fun c_1 => ?_) (fun c_1 => ?_)
  · have h := hA c_1
    clear hA hB
    show am_Run am_X0 (am_meth d) 38 R 8 [some (.ref 0), some (.int s), some (.int a), some (.int x), none, none, none] [.int 1] (am_mk I L, 0, 0)
    refine ar_b0 am_c_ne (t := 17) (q := 11) rfl rfl rfl (fun _ => ?_) (fun c9 => absurd (by decide) c9)
    refine ar_iload_n (j := 2) (q := 18) rfl rfl rfl rfl ?_
    obtain ⟨hA, hB⟩ := h
    refine ar_b0 am_c_eq (t := 32) (q := 21) rfl rfl rfl (fun c_2 => ?_) (fun c_2 => ?_)
    · have h := hA c_2
      clear hA hB
      refine ar_aload_n (j := 0) (q := 33) rfl rfl rfl rfl ?_
      refine ar_getf (v := .ref 66) (q := 36) rfl rfl mk_0 rfl rfl ?_
      refine ar_getf (v := .int (I 66 0)) (q := 39) rfl rfl mk_66 rfl rfl ?_
      refine ar_aload_n (j := 0) (q := 40) rfl rfl rfl rfl ?_
      refine ar_getf (v := .ref 66) (q := 43) rfl rfl mk_0 rfl rfl ?_
      refine ar_getf (v := .ref 68) (q := 46) rfl rfl mk_66 rfl rfl ?_
      refine ar_iload_n (j := 1) (q := 47) rfl rfl rfl rfl ?_
      obtain ⟨j_3, hx_4, hi_5, h⟩ := h
      refine ar_iald (v := I 68 j_3) (q := 48) rfl mk_68 (am_inE hi_5 hx_4 (by decide)) (am_clE hi_5 hx_4 (by decide)) rfl ?_
      obtain ⟨hA, hB⟩ := h
      refine ar_br am_d_gt (t := 55) (q := 51) rfl rfl rfl (fun c_6 => ?_) (fun c_6 => ?_)
      · have h := hB c_6
        clear hA hB
        refine ar_iconst (v := 0) (q := 56) rfl rfl rfl ?_
        refine ar_istore (ls' := [some (.ref 0), some (.int s), some (.int a), some (.int x), some (.int 0), none, none]) (q := 58) rfl rfl rfl rfl ?_
        refine ar_aload_n (j := 0) (q := 59) rfl rfl rfl rfl ?_
        refine ar_getf (v := .ref 66) (q := 62) rfl rfl mk_0 rfl rfl ?_
        refine ar_getf (v := .ref 70) (q := 65) rfl rfl mk_66 rfl rfl ?_
        refine ar_iload_n (j := 1) (q := 66) rfl rfl rfl rfl ?_
        refine ar_iald (v := I 70 j_3) (q := 67) rfl mk_70 (am_inE hi_5 hx_4 (by decide)) (am_clE hi_5 hx_4 (by decide)) rfl ?_
        refine ar_iconst (v := 1) (q := 68) rfl rfl rfl ?_
        obtain ⟨hA, hB⟩ := h
        refine ar_br am_c_ne (t := 76) (q := 71) rfl rfl rfl (fun c_14 => ?_) (fun c_14 => ?_)
        · have h := hB c_14
          clear hA hB
          refine ar_aload_n (j := 0) (q := 77) rfl rfl rfl rfl ?_
          refine ar_bipush (v := (-3 : Int32)) (q := 79) rfl rfl rfl ?_
          refine ar_invv (as := [.int (-3 : Int32)]) (rest := []) (b2 := (0, 0)) (b3 := (0, 0)) (q := 82) rfl rfl rfl rfl mk_0 rfl rfl rfl rfl rfl ?_
          refine ok_refuse (j := 3) (by omega) (by decide) (by decide) ?_
          show am_Run am_X0 (am_meth d) 38 R 82 [some (.ref 0), some (.int s), some (.int a), some (.int x), some (.int 0), none, none] [.int (-3 : Int32)] (am_mk (am_rf I 3) L, 0, 0)
          exact ar_iret rfl rfl h
        · have c_14 := Classical.not_not.mp c_14
          have h := hA c_14
          clear hA hB
          refine ar_iload (q := 73) rfl rfl rfl ?_
          refine ar_b0 am_c_ne (t := 83) (q := 76) rfl rfl rfl (fun c9 => absurd (by decide) c9) (fun _ => ?_)
          refine ar_aload_n (j := 0) (q := 77) rfl rfl rfl rfl ?_
          refine ar_bipush (v := (-3 : Int32)) (q := 79) rfl rfl rfl ?_
          refine ar_invv (as := [.int (-3 : Int32)]) (rest := []) (b2 := (0, 0)) (b3 := (0, 0)) (q := 82) rfl rfl rfl rfl mk_0 rfl rfl rfl rfl rfl ?_
          refine ok_refuse (j := 3) (by omega) (by decide) (by decide) ?_
          show am_Run am_X0 (am_meth d) 38 R 82 [some (.ref 0), some (.int s), some (.int a), some (.int x), some (.int 0), none, none] [.int (-3 : Int32)] (am_mk (am_rf I 3) L, 0, 0)
          exact ar_iret rfl rfl h
      · have c_6 := Classical.not_not.mp c_6
        have h := hA c_6
        clear hA hB
        refine ar_iconst (v := 1) (q := 52) rfl rfl rfl ?_
        refine ar_goto (t := 56) rfl rfl ?_
        refine ar_istore (ls' := [some (.ref 0), some (.int s), some (.int a), some (.int x), some (.int 1), none, none]) (q := 58) rfl rfl rfl rfl ?_
        refine ar_aload_n (j := 0) (q := 59) rfl rfl rfl rfl ?_
        refine ar_getf (v := .ref 66) (q := 62) rfl rfl mk_0 rfl rfl ?_
        refine ar_getf (v := .ref 70) (q := 65) rfl rfl mk_66 rfl rfl ?_
        refine ar_iload_n (j := 1) (q := 66) rfl rfl rfl rfl ?_
        refine ar_iald (v := I 70 j_3) (q := 67) rfl mk_70 (am_inE hi_5 hx_4 (by decide)) (am_clE hi_5 hx_4 (by decide)) rfl ?_
        refine ar_iconst (v := 1) (q := 68) rfl rfl rfl ?_
        obtain ⟨hA, hB⟩ := h
        refine ar_br am_c_ne (t := 76) (q := 71) rfl rfl rfl (fun c_7 => ?_) (fun c_7 => ?_)
        · have h := hB c_7
          clear hA hB
          refine ar_aload_n (j := 0) (q := 77) rfl rfl rfl rfl ?_
          refine ar_bipush (v := (-3 : Int32)) (q := 79) rfl rfl rfl ?_
          refine ar_invv (as := [.int (-3 : Int32)]) (rest := []) (b2 := (0, 0)) (b3 := (0, 0)) (q := 82) rfl rfl rfl rfl mk_0 rfl rfl rfl rfl rfl ?_
          refine ok_refuse (j := 3) (by omega) (by decide) (by decide) ?_
          show am_Run am_X0 (am_meth d) 38 R 82 [some (.ref 0), some (.int s), some (.int a), some (.int x), some (.int 1), none, none] [.int (-3 : Int32)] (am_mk (am_rf I 3) L, 0, 0)
          exact ar_iret rfl rfl h
        · have c_7 := Classical.not_not.mp c_7
          have h := hA c_7
          clear hA hB
          refine ar_iload (q := 73) rfl rfl rfl ?_
          refine ar_b0 am_c_ne (t := 83) (q := 76) rfl rfl rfl (fun _ => ?_) (fun c9 => absurd (by decide) c9)
          refine ar_iload_n (j := 3) (q := 84) rfl rfl rfl rfl ?_
          obtain ⟨hA, hB⟩ := h
          refine ar_b0 am_d_ge (t := 94) (q := 87) rfl rfl rfl (fun c_8 => ?_) (fun c_8 => ?_)
          · have h := hB c_8
            clear hA hB
            refine ar_iload_n (j := 2) (q := 95) rfl rfl rfl rfl ?_
            refine ar_b0 am_c_eq (t := 108) (q := 98) rfl rfl rfl (fun _ => ?_) (fun c9 => absurd c_2 c9)
            refine ar_aload_n (j := 0) (q := 109) rfl rfl rfl rfl ?_
            refine ar_getf (v := .ref 66) (q := 112) rfl rfl mk_0 rfl rfl ?_
            refine ar_getf (v := .ref 72) (q := 115) rfl rfl mk_66 rfl rfl ?_
            refine ar_astore (ls' := [some (.ref 0), some (.int s), some (.int a), some (.int x), some (.int 1), some (.ref 72), none]) (q := 117) rfl rfl rfl rfl ?_
            refine ar_aload (q := 119) rfl rfl rfl ?_
            refine ar_iload_n (j := 1) (q := 120) rfl rfl rfl rfl ?_
            refine ar_iald (v := I 72 j_3) (q := 121) rfl mk_72 (am_inE hi_5 hx_4 (by decide)) (am_clE hi_5 hx_4 (by decide)) rfl ?_
            refine ar_iconst (v := (-1 : Int32)) (q := 122) rfl rfl rfl ?_
            obtain ⟨hA, hB⟩ := h
            refine ar_br am_c_ne (t := 129) (q := 125) rfl rfl rfl (fun c_9 => ?_) (fun c_9 => ?_)
            · have h := hB c_9
              clear hA hB
              refine ar_iconst (v := 0) (q := 130) rfl rfl rfl ?_
              refine ar_istore (ls' := [some (.ref 0), some (.int s), some (.int a), some (.int x), some (.int 1), some (.ref 72), some (.int 0)]) (q := 132) rfl rfl rfl rfl ?_
              refine ar_aload (q := 134) rfl rfl rfl ?_
              refine ar_iload_n (j := 1) (q := 135) rfl rfl rfl rfl ?_
              refine ar_iload_n (j := 3) (q := 136) rfl rfl rfl rfl ?_
              obtain ⟨I_12, hI_13⟩ : ∃ z : Nat → Nat → Int32, z = va_up I 72 (upd (I 72) j_3 x) := ⟨_, rfl⟩
              have h := h I_12 hI_13
              refine ar_iast (hp2 := am_mk I_12 L) (q := 137) rfl mk_72 (am_inE hi_5 hx_4 (by decide)) (by rw [am_clT hi_5 hx_4 (by decide), hI_13]; exact mk_s72) rfl ?_
              refine ar_iload (q := 139) rfl rfl rfl ?_
              exact ar_iret rfl rfl h
            · have c_9 := Classical.not_not.mp c_9
              have h := hA c_9
              clear hA hB
              refine ar_iconst (v := 1) (q := 126) rfl rfl rfl ?_
              refine ar_goto (t := 130) rfl rfl ?_
              refine ar_istore (ls' := [some (.ref 0), some (.int s), some (.int a), some (.int x), some (.int 1), some (.ref 72), some (.int 1)]) (q := 132) rfl rfl rfl rfl ?_
              refine ar_aload (q := 134) rfl rfl rfl ?_
              refine ar_iload_n (j := 1) (q := 135) rfl rfl rfl rfl ?_
              refine ar_iload_n (j := 3) (q := 136) rfl rfl rfl rfl ?_
              obtain ⟨I_10, hI_11⟩ : ∃ z : Nat → Nat → Int32, z = va_up I 72 (upd (I 72) j_3 x) := ⟨_, rfl⟩
              have h := h I_10 hI_11
              refine ar_iast (hp2 := am_mk I_10 L) (q := 137) rfl mk_72 (am_inE hi_5 hx_4 (by decide)) (by rw [am_clT hi_5 hx_4 (by decide), hI_11]; exact mk_s72) rfl ?_
              refine ar_iload (q := 139) rfl rfl rfl ?_
              exact ar_iret rfl rfl h
          · have c_8 := Classical.not_not.mp c_8
            have h := hA c_8
            clear hA hB
            refine ar_aload_n (j := 0) (q := 88) rfl rfl rfl rfl ?_
            refine ar_bipush (v := (-4 : Int32)) (q := 90) rfl rfl rfl ?_
            refine ar_invv (as := [.int (-4 : Int32)]) (rest := []) (b2 := (0, 0)) (b3 := (0, 0)) (q := 93) rfl rfl rfl rfl mk_0 rfl rfl rfl rfl rfl ?_
            refine ok_refuse (j := 4) (by omega) (by decide) (by decide) ?_
            show am_Run am_X0 (am_meth d) 38 R 93 [some (.ref 0), some (.int s), some (.int a), some (.int x), some (.int 1), none, none] [.int (-4 : Int32)] (am_mk (am_rf I 4) L, 0, 0)
            exact ar_iret rfl rfl h
    · have h := hB c_2
      clear hA hB
      refine ar_aload_n (j := 0) (q := 22) rfl rfl rfl rfl ?_
      refine ar_getf (v := .ref 66) (q := 25) rfl rfl mk_0 rfl rfl ?_
      refine ar_iload_n (j := 1) (q := 26) rfl rfl rfl rfl ?_
      refine ar_invv (as := [.int s]) (rest := []) (b2 := (0, 0)) (b3 := (0, 0)) (q := 29) rfl rfl rfl rfl mk_66 rfl rfl rfl rfl rfl ?_
      obtain ⟨j_15, hi_16, h⟩ := h
      obtain ⟨hp_18, h⟩ := h
      obtain ⟨hA, hB⟩ := h
      refine ok_St_isOver (by omega) hi_16 hp_18 (fun c_17 => ?_) (fun c_17 => ?_)
      · have h := hA c_17
        clear hA hB
        show am_Run am_X0 (am_meth d) 38 R 29 [some (.ref 0), some (.int s), some (.int a), some (.int x), none, none, none] [.int 1] (am_mk I L, 0, 0)
        refine ar_goto (t := 56) rfl rfl ?_
        refine ar_istore (ls' := [some (.ref 0), some (.int s), some (.int a), some (.int x), some (.int 1), none, none]) (q := 58) rfl rfl rfl rfl ?_
        refine ar_aload_n (j := 0) (q := 59) rfl rfl rfl rfl ?_
        refine ar_getf (v := .ref 66) (q := 62) rfl rfl mk_0 rfl rfl ?_
        refine ar_getf (v := .ref 70) (q := 65) rfl rfl mk_66 rfl rfl ?_
        refine ar_iload_n (j := 1) (q := 66) rfl rfl rfl rfl ?_
        obtain ⟨j_19, hx_20, hi_21, h⟩ := h
        refine ar_iald (v := I 70 j_19) (q := 67) rfl mk_70 (am_inE hi_21 hx_20 (by decide)) (am_clE hi_21 hx_20 (by decide)) rfl ?_
        refine ar_iconst (v := 1) (q := 68) rfl rfl rfl ?_
        obtain ⟨hA, hB⟩ := h
        refine ar_br am_c_ne (t := 76) (q := 71) rfl rfl rfl (fun c_22 => ?_) (fun c_22 => ?_)
        · have h := hB c_22
          clear hA hB
          refine ar_aload_n (j := 0) (q := 77) rfl rfl rfl rfl ?_
          refine ar_bipush (v := (-3 : Int32)) (q := 79) rfl rfl rfl ?_
          refine ar_invv (as := [.int (-3 : Int32)]) (rest := []) (b2 := (0, 0)) (b3 := (0, 0)) (q := 82) rfl rfl rfl rfl mk_0 rfl rfl rfl rfl rfl ?_
          refine ok_refuse (j := 3) (by omega) (by decide) (by decide) ?_
          show am_Run am_X0 (am_meth d) 38 R 82 [some (.ref 0), some (.int s), some (.int a), some (.int x), some (.int 1), none, none] [.int (-3 : Int32)] (am_mk (am_rf I 3) L, 0, 0)
          exact ar_iret rfl rfl h
        · have c_22 := Classical.not_not.mp c_22
          have h := hA c_22
          clear hA hB
          refine ar_iload (q := 73) rfl rfl rfl ?_
          refine ar_b0 am_c_ne (t := 83) (q := 76) rfl rfl rfl (fun _ => ?_) (fun c9 => absurd (by decide) c9)
          refine ar_iload_n (j := 3) (q := 84) rfl rfl rfl rfl ?_
          obtain ⟨hA, hB⟩ := h
          refine ar_b0 am_d_ge (t := 94) (q := 87) rfl rfl rfl (fun c_23 => ?_) (fun c_23 => ?_)
          · have h := hB c_23
            clear hA hB
            refine ar_iload_n (j := 2) (q := 95) rfl rfl rfl rfl ?_
            refine ar_b0 am_c_eq (t := 108) (q := 98) rfl rfl rfl (fun c9 => absurd c9 c_2) (fun _ => ?_)
            refine ar_aload_n (j := 0) (q := 99) rfl rfl rfl rfl ?_
            refine ar_getf (v := .ref 66) (q := 102) rfl rfl mk_0 rfl rfl ?_
            refine ar_getf (v := .ref 73) (q := 105) rfl rfl mk_66 rfl rfl ?_
            refine ar_goto (t := 115) rfl rfl ?_
            refine ar_astore (ls' := [some (.ref 0), some (.int s), some (.int a), some (.int x), some (.int 1), some (.ref 73), none]) (q := 117) rfl rfl rfl rfl ?_
            refine ar_aload (q := 119) rfl rfl rfl ?_
            refine ar_iload_n (j := 1) (q := 120) rfl rfl rfl rfl ?_
            refine ar_iald (v := I 73 j_19) (q := 121) rfl mk_73 (am_inE hi_21 hx_20 (by decide)) (am_clE hi_21 hx_20 (by decide)) rfl ?_
            refine ar_iconst (v := (-1 : Int32)) (q := 122) rfl rfl rfl ?_
            obtain ⟨hA, hB⟩ := h
            refine ar_br am_c_ne (t := 129) (q := 125) rfl rfl rfl (fun c_24 => ?_) (fun c_24 => ?_)
            · have h := hB c_24
              clear hA hB
              refine ar_iconst (v := 0) (q := 130) rfl rfl rfl ?_
              refine ar_istore (ls' := [some (.ref 0), some (.int s), some (.int a), some (.int x), some (.int 1), some (.ref 73), some (.int 0)]) (q := 132) rfl rfl rfl rfl ?_
              refine ar_aload (q := 134) rfl rfl rfl ?_
              refine ar_iload_n (j := 1) (q := 135) rfl rfl rfl rfl ?_
              refine ar_iload_n (j := 3) (q := 136) rfl rfl rfl rfl ?_
              obtain ⟨I_27, hI_28⟩ : ∃ z : Nat → Nat → Int32, z = va_up I 73 (upd (I 73) j_19 x) := ⟨_, rfl⟩
              have h := h I_27 hI_28
              refine ar_iast (hp2 := am_mk I_27 L) (q := 137) rfl mk_73 (am_inE hi_21 hx_20 (by decide)) (by rw [am_clT hi_21 hx_20 (by decide), hI_28]; exact mk_s73) rfl ?_
              refine ar_iload (q := 139) rfl rfl rfl ?_
              exact ar_iret rfl rfl h
            · have c_24 := Classical.not_not.mp c_24
              have h := hA c_24
              clear hA hB
              refine ar_iconst (v := 1) (q := 126) rfl rfl rfl ?_
              refine ar_goto (t := 130) rfl rfl ?_
              refine ar_istore (ls' := [some (.ref 0), some (.int s), some (.int a), some (.int x), some (.int 1), some (.ref 73), some (.int 1)]) (q := 132) rfl rfl rfl rfl ?_
              refine ar_aload (q := 134) rfl rfl rfl ?_
              refine ar_iload_n (j := 1) (q := 135) rfl rfl rfl rfl ?_
              refine ar_iload_n (j := 3) (q := 136) rfl rfl rfl rfl ?_
              obtain ⟨I_25, hI_26⟩ : ∃ z : Nat → Nat → Int32, z = va_up I 73 (upd (I 73) j_19 x) := ⟨_, rfl⟩
              have h := h I_25 hI_26
              refine ar_iast (hp2 := am_mk I_25 L) (q := 137) rfl mk_73 (am_inE hi_21 hx_20 (by decide)) (by rw [am_clT hi_21 hx_20 (by decide), hI_26]; exact mk_s73) rfl ?_
              refine ar_iload (q := 139) rfl rfl rfl ?_
              exact ar_iret rfl rfl h
          · have c_23 := Classical.not_not.mp c_23
            have h := hA c_23
            clear hA hB
            refine ar_aload_n (j := 0) (q := 88) rfl rfl rfl rfl ?_
            refine ar_bipush (v := (-4 : Int32)) (q := 90) rfl rfl rfl ?_
            refine ar_invv (as := [.int (-4 : Int32)]) (rest := []) (b2 := (0, 0)) (b3 := (0, 0)) (q := 93) rfl rfl rfl rfl mk_0 rfl rfl rfl rfl rfl ?_
            refine ok_refuse (j := 4) (by omega) (by decide) (by decide) ?_
            show am_Run am_X0 (am_meth d) 38 R 93 [some (.ref 0), some (.int s), some (.int a), some (.int x), some (.int 1), none, none] [.int (-4 : Int32)] (am_mk (am_rf I 4) L, 0, 0)
            exact ar_iret rfl rfl h
      · have h := hB c_17
        clear hA hB
        show am_Run am_X0 (am_meth d) 38 R 29 [some (.ref 0), some (.int s), some (.int a), some (.int x), none, none, none] [.int 0] (am_mk I L, 0, 0)
        refine ar_goto (t := 56) rfl rfl ?_
        refine ar_istore (ls' := [some (.ref 0), some (.int s), some (.int a), some (.int x), some (.int 0), none, none]) (q := 58) rfl rfl rfl rfl ?_
        refine ar_aload_n (j := 0) (q := 59) rfl rfl rfl rfl ?_
        refine ar_getf (v := .ref 66) (q := 62) rfl rfl mk_0 rfl rfl ?_
        refine ar_getf (v := .ref 70) (q := 65) rfl rfl mk_66 rfl rfl ?_
        refine ar_iload_n (j := 1) (q := 66) rfl rfl rfl rfl ?_
        obtain ⟨j_29, hx_30, hi_31, h⟩ := h
        refine ar_iald (v := I 70 j_29) (q := 67) rfl mk_70 (am_inE hi_31 hx_30 (by decide)) (am_clE hi_31 hx_30 (by decide)) rfl ?_
        refine ar_iconst (v := 1) (q := 68) rfl rfl rfl ?_
        obtain ⟨hA, hB⟩ := h
        refine ar_br am_c_ne (t := 76) (q := 71) rfl rfl rfl (fun c_32 => ?_) (fun c_32 => ?_)
        · have h := hB c_32
          clear hA hB
          refine ar_aload_n (j := 0) (q := 77) rfl rfl rfl rfl ?_
          refine ar_bipush (v := (-3 : Int32)) (q := 79) rfl rfl rfl ?_
          refine ar_invv (as := [.int (-3 : Int32)]) (rest := []) (b2 := (0, 0)) (b3 := (0, 0)) (q := 82) rfl rfl rfl rfl mk_0 rfl rfl rfl rfl rfl ?_
          refine ok_refuse (j := 3) (by omega) (by decide) (by decide) ?_
          show am_Run am_X0 (am_meth d) 38 R 82 [some (.ref 0), some (.int s), some (.int a), some (.int x), some (.int 0), none, none] [.int (-3 : Int32)] (am_mk (am_rf I 3) L, 0, 0)
          exact ar_iret rfl rfl h
        · have c_32 := Classical.not_not.mp c_32
          have h := hA c_32
          clear hA hB
          refine ar_iload (q := 73) rfl rfl rfl ?_
          refine ar_b0 am_c_ne (t := 83) (q := 76) rfl rfl rfl (fun c9 => absurd (by decide) c9) (fun _ => ?_)
          refine ar_aload_n (j := 0) (q := 77) rfl rfl rfl rfl ?_
          refine ar_bipush (v := (-3 : Int32)) (q := 79) rfl rfl rfl ?_
          refine ar_invv (as := [.int (-3 : Int32)]) (rest := []) (b2 := (0, 0)) (b3 := (0, 0)) (q := 82) rfl rfl rfl rfl mk_0 rfl rfl rfl rfl rfl ?_
          refine ok_refuse (j := 3) (by omega) (by decide) (by decide) ?_
          show am_Run am_X0 (am_meth d) 38 R 82 [some (.ref 0), some (.int s), some (.int a), some (.int x), some (.int 0), none, none] [.int (-3 : Int32)] (am_mk (am_rf I 3) L, 0, 0)
          exact ar_iret rfl rfl h
  · have h := hB c_1
    clear hA hB
    show am_Run am_X0 (am_meth d) 38 R 8 [some (.ref 0), some (.int s), some (.int a), some (.int x), none, none, none] [.int 0] (am_mk I L, 0, 0)
    refine ar_b0 am_c_ne (t := 17) (q := 11) rfl rfl rfl (fun c9 => absurd (by decide) c9) (fun _ => ?_)
    refine ar_aload_n (j := 0) (q := 12) rfl rfl rfl rfl ?_
    refine ar_iconst (v := (-1 : Int32)) (q := 13) rfl rfl rfl ?_
    refine ar_invv (as := [.int (-1 : Int32)]) (rest := []) (b2 := (0, 0)) (b3 := (0, 0)) (q := 16) rfl rfl rfl rfl mk_0 rfl rfl rfl rfl rfl ?_
    refine ok_refuse (j := 1) (by omega) (by decide) (by decide) ?_
    show am_Run am_X0 (am_meth d) 38 R 16 [some (.ref 0), some (.int s), some (.int a), some (.int x), none, none, none] [.int (-1 : Int32)] (am_mk (am_rf I 1) L, 0, 0)
    exact ar_iret rfl rfl h
theorem r_H_putInto_row_0 {d : Nat} (hd : 1 ≤ d) {R : am_R} {I : Nat → Nat → Int32} {L : Nat → Nat → Int64} {v : Int32} (h : ((v < (-1 : Int32) → (R (some (.int (-4 : Int32))) (am_mk (am_rf I 4) L, 0, 0))) ∧ ((¬ v < (-1 : Int32) ∧ 99 < v) → (R (some (.int (-6 : Int32))) (am_mk (am_rf I 6) L, 0, 0))) ∧ ((¬ v < (-1 : Int32) ∧ ¬ 99 < v) → (((1 ≤ 12 - I 95 0 → ((am_ix I 95 0 12) ∧ (R (some (.int ((am_ad I 95 96 v) 95 0))) (am_mk (am_ad I 95 96 v) L, 0, 0)))) ∧ (¬ (1 ≤ 12 - I 95 0) → (R (some (.int (-6 : Int32))) (am_mk (am_rf I 6) L, 0, 0)))))))) : am_Run am_X0 (am_meth d) 25 R 0 [some (.ref 0), some (.ref 95), some (.int v), none] [] (am_mk I L, 0, 0) := by
  refine ar_iload_n (j := 2) (q := 1) rfl rfl rfl rfl ?_
  refine ar_iconst (v := (-1 : Int32)) (q := 2) rfl rfl rfl ?_
  refine ar_bipush (v := 99) (q := 4) rfl rfl rfl ?_
  refine ar_invs (as := [.int v, .int (-1 : Int32), .int 99]) (rest := []) (b2 := (0, 0)) (b3 := (0, 0)) (q := 7) rfl rfl rfl rfl rfl rfl rfl rfl rfl ?_
  obtain ⟨hC0, hC1, hC2⟩ := h
  refine ok_bound (by omega)  (fun c_1 => ?_) (fun c_1 => ?_) (fun c_1 => ?_)
  · have h := hC0 c_1
    clear hC0 hC1 hC2
    show am_Run am_X0 (am_meth d) 25 R 7 [some (.ref 0), some (.ref 95), some (.int v), none] [.int (-4 : Int32)] (am_mk I L, 0, 0)
    refine ar_istore_n (j := 3) (ls' := [some (.ref 0), some (.ref 95), some (.int v), some (.int (-4 : Int32))]) (q := 8) rfl rfl rfl rfl rfl ?_
    refine ar_iload_n (j := 3) (q := 9) rfl rfl rfl rfl ?_
    refine ar_b0 am_c_eq (t := 18) (q := 12) rfl rfl rfl (fun c9 => absurd c9 (by decide)) (fun _ => ?_)
    refine ar_aload_n (j := 0) (q := 13) rfl rfl rfl rfl ?_
    refine ar_iload_n (j := 3) (q := 14) rfl rfl rfl rfl ?_
    refine ar_invv (as := [.int (-4 : Int32)]) (rest := []) (b2 := (0, 0)) (b3 := (0, 0)) (q := 17) rfl rfl rfl rfl mk_0 rfl rfl rfl rfl rfl ?_
    refine ok_refuse (j := 4) (by omega) (by decide) (by decide) ?_
    show am_Run am_X0 (am_meth d) 25 R 17 [some (.ref 0), some (.ref 95), some (.int v), some (.int (-4 : Int32))] [.int (-4 : Int32)] (am_mk (am_rf I 4) L, 0, 0)
    exact ar_iret rfl rfl h
  · have h := hC1 c_1
    clear hC0 hC1 hC2
    show am_Run am_X0 (am_meth d) 25 R 7 [some (.ref 0), some (.ref 95), some (.int v), none] [.int (-6 : Int32)] (am_mk I L, 0, 0)
    refine ar_istore_n (j := 3) (ls' := [some (.ref 0), some (.ref 95), some (.int v), some (.int (-6 : Int32))]) (q := 8) rfl rfl rfl rfl rfl ?_
    refine ar_iload_n (j := 3) (q := 9) rfl rfl rfl rfl ?_
    refine ar_b0 am_c_eq (t := 18) (q := 12) rfl rfl rfl (fun c9 => absurd c9 (by decide)) (fun _ => ?_)
    refine ar_aload_n (j := 0) (q := 13) rfl rfl rfl rfl ?_
    refine ar_iload_n (j := 3) (q := 14) rfl rfl rfl rfl ?_
    refine ar_invv (as := [.int (-6 : Int32)]) (rest := []) (b2 := (0, 0)) (b3 := (0, 0)) (q := 17) rfl rfl rfl rfl mk_0 rfl rfl rfl rfl rfl ?_
    refine ok_refuse (j := 6) (by omega) (by decide) (by decide) ?_
    show am_Run am_X0 (am_meth d) 25 R 17 [some (.ref 0), some (.ref 95), some (.int v), some (.int (-6 : Int32))] [.int (-6 : Int32)] (am_mk (am_rf I 6) L, 0, 0)
    exact ar_iret rfl rfl h
  · have h := hC2 c_1
    clear hC0 hC1 hC2
    show am_Run am_X0 (am_meth d) 25 R 7 [some (.ref 0), some (.ref 95), some (.int v), none] [.int 0] (am_mk I L, 0, 0)
    refine ar_istore_n (j := 3) (ls' := [some (.ref 0), some (.ref 95), some (.int v), some (.int 0)]) (q := 8) rfl rfl rfl rfl rfl ?_
    refine ar_iload_n (j := 3) (q := 9) rfl rfl rfl rfl ?_
    refine ar_b0 am_c_eq (t := 18) (q := 12) rfl rfl rfl (fun _ => ?_) (fun c9 => absurd (by decide) c9)
    refine ar_aload_n (j := 1) (q := 19) rfl rfl rfl rfl ?_
    refine ar_iconst (v := 1) (q := 20) rfl rfl rfl ?_
    refine ar_invv (as := [.int 1]) (rest := []) (b2 := (0, 0)) (b3 := (0, 0)) (q := 23) rfl rfl rfl rfl mk_95 rfl rfl rfl rfl rfl ?_
    obtain ⟨hA, hB⟩ := h
    refine ok_Ro_hasRoomFor_row (by omega)  (fun c_2 => ?_) (fun c_2 => ?_)
    · have h := hA c_2
      clear hA hB
      show am_Run am_X0 (am_meth d) 25 R 23 [some (.ref 0), some (.ref 95), some (.int v), some (.int 0)] [.int 1] (am_mk I L, 0, 0)
      refine ar_b0 am_c_ne (t := 33) (q := 26) rfl rfl rfl (fun _ => ?_) (fun c9 => absurd (by decide) c9)
      refine ar_aload_n (j := 1) (q := 34) rfl rfl rfl rfl ?_
      refine ar_iload_n (j := 2) (q := 35) rfl rfl rfl rfl ?_
      refine ar_invv (as := [.int v]) (rest := []) (b2 := (0, 0)) (b3 := (0, 0)) (q := 38) rfl rfl rfl rfl mk_95 rfl rfl rfl rfl rfl ?_
      obtain ⟨hp_3, h⟩ := h
      refine ok_Ro_add_row (by omega) hp_3 ?_
      show am_Run am_X0 (am_meth d) 25 R 38 [some (.ref 0), some (.ref 95), some (.int v), some (.int 0)] [] (am_mk (am_ad I 95 96 v) L, 0, 0)
      refine ar_aload_n (j := 1) (q := 39) rfl rfl rfl rfl ?_
      refine ar_getf (v := .int ((am_ad I 95 96 v) 95 0)) (q := 42) rfl rfl mk_95 rfl rfl ?_
      exact ar_iret rfl rfl h
    · have h := hB c_2
      clear hA hB
      show am_Run am_X0 (am_meth d) 25 R 23 [some (.ref 0), some (.ref 95), some (.int v), some (.int 0)] [.int 0] (am_mk I L, 0, 0)
      refine ar_b0 am_c_ne (t := 33) (q := 26) rfl rfl rfl (fun c9 => absurd (by decide) c9) (fun _ => ?_)
      refine ar_aload_n (j := 0) (q := 27) rfl rfl rfl rfl ?_
      refine ar_bipush (v := (-6 : Int32)) (q := 29) rfl rfl rfl ?_
      refine ar_invv (as := [.int (-6 : Int32)]) (rest := []) (b2 := (0, 0)) (b3 := (0, 0)) (q := 32) rfl rfl rfl rfl mk_0 rfl rfl rfl rfl rfl ?_
      refine ok_refuse (j := 6) (by omega) (by decide) (by decide) ?_
      show am_Run am_X0 (am_meth d) 25 R 32 [some (.ref 0), some (.ref 95), some (.int v), some (.int 0)] [.int (-6 : Int32)] (am_mk (am_rf I 6) L, 0, 0)
      exact ar_iret rfl rfl h
theorem r_H_putInto_told_0 {d : Nat} (hd : 1 ≤ d) {R : am_R} {I : Nat → Nat → Int32} {L : Nat → Nat → Int64} {v : Int32} (h : ((v < (-1 : Int32) → (R (some (.int (-4 : Int32))) (am_mk (am_rf I 4) L, 0, 0))) ∧ ((¬ v < (-1 : Int32) ∧ 99 < v) → (R (some (.int (-6 : Int32))) (am_mk (am_rf I 6) L, 0, 0))) ∧ ((¬ v < (-1 : Int32) ∧ ¬ 99 < v) → (((1 ≤ 6 - I 97 0 → ((am_ix I 97 0 6) ∧ (R (some (.int ((am_ad I 97 98 v) 97 0))) (am_mk (am_ad I 97 98 v) L, 0, 0)))) ∧ (¬ (1 ≤ 6 - I 97 0) → (R (some (.int (-6 : Int32))) (am_mk (am_rf I 6) L, 0, 0)))))))) : am_Run am_X0 (am_meth d) 25 R 0 [some (.ref 0), some (.ref 97), some (.int v), none] [] (am_mk I L, 0, 0) := by
  refine ar_iload_n (j := 2) (q := 1) rfl rfl rfl rfl ?_
  refine ar_iconst (v := (-1 : Int32)) (q := 2) rfl rfl rfl ?_
  refine ar_bipush (v := 99) (q := 4) rfl rfl rfl ?_
  refine ar_invs (as := [.int v, .int (-1 : Int32), .int 99]) (rest := []) (b2 := (0, 0)) (b3 := (0, 0)) (q := 7) rfl rfl rfl rfl rfl rfl rfl rfl rfl ?_
  obtain ⟨hC0, hC1, hC2⟩ := h
  refine ok_bound (by omega)  (fun c_1 => ?_) (fun c_1 => ?_) (fun c_1 => ?_)
  · have h := hC0 c_1
    clear hC0 hC1 hC2
    show am_Run am_X0 (am_meth d) 25 R 7 [some (.ref 0), some (.ref 97), some (.int v), none] [.int (-4 : Int32)] (am_mk I L, 0, 0)
    refine ar_istore_n (j := 3) (ls' := [some (.ref 0), some (.ref 97), some (.int v), some (.int (-4 : Int32))]) (q := 8) rfl rfl rfl rfl rfl ?_
    refine ar_iload_n (j := 3) (q := 9) rfl rfl rfl rfl ?_
    refine ar_b0 am_c_eq (t := 18) (q := 12) rfl rfl rfl (fun c9 => absurd c9 (by decide)) (fun _ => ?_)
    refine ar_aload_n (j := 0) (q := 13) rfl rfl rfl rfl ?_
    refine ar_iload_n (j := 3) (q := 14) rfl rfl rfl rfl ?_
    refine ar_invv (as := [.int (-4 : Int32)]) (rest := []) (b2 := (0, 0)) (b3 := (0, 0)) (q := 17) rfl rfl rfl rfl mk_0 rfl rfl rfl rfl rfl ?_
    refine ok_refuse (j := 4) (by omega) (by decide) (by decide) ?_
    show am_Run am_X0 (am_meth d) 25 R 17 [some (.ref 0), some (.ref 97), some (.int v), some (.int (-4 : Int32))] [.int (-4 : Int32)] (am_mk (am_rf I 4) L, 0, 0)
    exact ar_iret rfl rfl h
  · have h := hC1 c_1
    clear hC0 hC1 hC2
    show am_Run am_X0 (am_meth d) 25 R 7 [some (.ref 0), some (.ref 97), some (.int v), none] [.int (-6 : Int32)] (am_mk I L, 0, 0)
    refine ar_istore_n (j := 3) (ls' := [some (.ref 0), some (.ref 97), some (.int v), some (.int (-6 : Int32))]) (q := 8) rfl rfl rfl rfl rfl ?_
    refine ar_iload_n (j := 3) (q := 9) rfl rfl rfl rfl ?_
    refine ar_b0 am_c_eq (t := 18) (q := 12) rfl rfl rfl (fun c9 => absurd c9 (by decide)) (fun _ => ?_)
    refine ar_aload_n (j := 0) (q := 13) rfl rfl rfl rfl ?_
    refine ar_iload_n (j := 3) (q := 14) rfl rfl rfl rfl ?_
    refine ar_invv (as := [.int (-6 : Int32)]) (rest := []) (b2 := (0, 0)) (b3 := (0, 0)) (q := 17) rfl rfl rfl rfl mk_0 rfl rfl rfl rfl rfl ?_
    refine ok_refuse (j := 6) (by omega) (by decide) (by decide) ?_
    show am_Run am_X0 (am_meth d) 25 R 17 [some (.ref 0), some (.ref 97), some (.int v), some (.int (-6 : Int32))] [.int (-6 : Int32)] (am_mk (am_rf I 6) L, 0, 0)
    exact ar_iret rfl rfl h
  · have h := hC2 c_1
    clear hC0 hC1 hC2
    show am_Run am_X0 (am_meth d) 25 R 7 [some (.ref 0), some (.ref 97), some (.int v), none] [.int 0] (am_mk I L, 0, 0)
    refine ar_istore_n (j := 3) (ls' := [some (.ref 0), some (.ref 97), some (.int v), some (.int 0)]) (q := 8) rfl rfl rfl rfl rfl ?_
    refine ar_iload_n (j := 3) (q := 9) rfl rfl rfl rfl ?_
    refine ar_b0 am_c_eq (t := 18) (q := 12) rfl rfl rfl (fun _ => ?_) (fun c9 => absurd (by decide) c9)
    refine ar_aload_n (j := 1) (q := 19) rfl rfl rfl rfl ?_
    refine ar_iconst (v := 1) (q := 20) rfl rfl rfl ?_
    refine ar_invv (as := [.int 1]) (rest := []) (b2 := (0, 0)) (b3 := (0, 0)) (q := 23) rfl rfl rfl rfl mk_97 rfl rfl rfl rfl rfl ?_
    obtain ⟨hA, hB⟩ := h
    refine ok_Ro_hasRoomFor_told (by omega)  (fun c_2 => ?_) (fun c_2 => ?_)
    · have h := hA c_2
      clear hA hB
      show am_Run am_X0 (am_meth d) 25 R 23 [some (.ref 0), some (.ref 97), some (.int v), some (.int 0)] [.int 1] (am_mk I L, 0, 0)
      refine ar_b0 am_c_ne (t := 33) (q := 26) rfl rfl rfl (fun _ => ?_) (fun c9 => absurd (by decide) c9)
      refine ar_aload_n (j := 1) (q := 34) rfl rfl rfl rfl ?_
      refine ar_iload_n (j := 2) (q := 35) rfl rfl rfl rfl ?_
      refine ar_invv (as := [.int v]) (rest := []) (b2 := (0, 0)) (b3 := (0, 0)) (q := 38) rfl rfl rfl rfl mk_97 rfl rfl rfl rfl rfl ?_
      obtain ⟨hp_3, h⟩ := h
      refine ok_Ro_add_told (by omega) hp_3 ?_
      show am_Run am_X0 (am_meth d) 25 R 38 [some (.ref 0), some (.ref 97), some (.int v), some (.int 0)] [] (am_mk (am_ad I 97 98 v) L, 0, 0)
      refine ar_aload_n (j := 1) (q := 39) rfl rfl rfl rfl ?_
      refine ar_getf (v := .int ((am_ad I 97 98 v) 97 0)) (q := 42) rfl rfl mk_97 rfl rfl ?_
      exact ar_iret rfl rfl h
    · have h := hB c_2
      clear hA hB
      show am_Run am_X0 (am_meth d) 25 R 23 [some (.ref 0), some (.ref 97), some (.int v), some (.int 0)] [.int 0] (am_mk I L, 0, 0)
      refine ar_b0 am_c_ne (t := 33) (q := 26) rfl rfl rfl (fun c9 => absurd (by decide) c9) (fun _ => ?_)
      refine ar_aload_n (j := 0) (q := 27) rfl rfl rfl rfl ?_
      refine ar_bipush (v := (-6 : Int32)) (q := 29) rfl rfl rfl ?_
      refine ar_invv (as := [.int (-6 : Int32)]) (rest := []) (b2 := (0, 0)) (b3 := (0, 0)) (q := 32) rfl rfl rfl rfl mk_0 rfl rfl rfl rfl rfl ?_
      refine ok_refuse (j := 6) (by omega) (by decide) (by decide) ?_
      show am_Run am_X0 (am_meth d) 25 R 32 [some (.ref 0), some (.ref 97), some (.int v), some (.int 0)] [.int (-6 : Int32)] (am_mk (am_rf I 6) L, 0, 0)
      exact ar_iret rfl rfl h
theorem r_H_put_0 {d : Nat} {R : am_R} {I : Nat → Nat → Int32} {L : Nat → Nat → Int64} {v : Int32} (h : am_meth d 25 [.ref 0, .ref 95, .int v] (am_mk I L, 0, 0) (am_ri (fun z_1 I_2 L_3 => R (some (.int z_1)) (am_mk I_2 L_3, 0, 0)))) : am_Run am_X0 (am_meth d) 24 R 0 [some (.ref 0), some (.int v)] [] (am_mk I L, 0, 0) := by
  refine ar_aload_n (j := 0) (q := 1) rfl rfl rfl rfl ?_
  refine ar_aload_n (j := 0) (q := 2) rfl rfl rfl rfl ?_
  refine ar_getf (v := .ref 95) (q := 5) rfl rfl mk_0 rfl rfl ?_
  refine ar_iload_n (j := 1) (q := 6) rfl rfl rfl rfl ?_
  refine ar_invv (as := [.ref 95, .int v]) (rest := []) (b2 := (0, 0)) (b3 := (0, 0)) (q := 9) rfl rfl rfl rfl mk_0 rfl rfl rfl rfl rfl ?_
  refine am_meth_mono d _ _ _ _ _ (fun v9 m9 h9 => ?_) h
  obtain ⟨z_1, I_2, L_3, rfl, rfl, h⟩ := h9
  show am_Run am_X0 (am_meth d) 24 R 9 [some (.ref 0), some (.int v)] [.int z_1] (am_mk I_2 L_3, 0, 0)
  exact ar_iret rfl rfl h
theorem r_H_tell_0 {d : Nat} {R : am_R} {I : Nat → Nat → Int32} {L : Nat → Nat → Int64} {v : Int32} (h : am_meth d 25 [.ref 0, .ref 97, .int v] (am_mk I L, 0, 0) (am_ri (fun z_1 I_2 L_3 => R (some (.int z_1)) (am_mk I_2 L_3, 0, 0)))) : am_Run am_X0 (am_meth d) 33 R 0 [some (.ref 0), some (.int v)] [] (am_mk I L, 0, 0) := by
  refine ar_aload_n (j := 0) (q := 1) rfl rfl rfl rfl ?_
  refine ar_aload_n (j := 0) (q := 2) rfl rfl rfl rfl ?_
  refine ar_getf (v := .ref 97) (q := 5) rfl rfl mk_0 rfl rfl ?_
  refine ar_iload_n (j := 1) (q := 6) rfl rfl rfl rfl ?_
  refine ar_invv (as := [.ref 97, .int v]) (rest := []) (b2 := (0, 0)) (b3 := (0, 0)) (q := 9) rfl rfl rfl rfl mk_0 rfl rfl rfl rfl rfl ?_
  refine am_meth_mono d _ _ _ _ _ (fun v9 m9 h9 => ?_) h
  obtain ⟨z_1, I_2, L_3, rfl, rfl, h⟩ := h9
  show am_Run am_X0 (am_meth d) 33 R 9 [some (.ref 0), some (.int v)] [.int z_1] (am_mk I_2 L_3, 0, 0)
  exact ar_iret rfl rfl h
theorem r_M_days_0 {d : Nat} (hd : 1 ≤ d) {R : am_R} {I : Nat → Nat → Int32} {L : Nat → Nat → Int64} {n : Int32} (h : ((n < 1 → (R (some (.int (-4 : Int32))) (am_mk (am_no I 4) L, 0, 0))) ∧ (¬ n < 1 → (((n ≤ (1500 - (I 113 0)) → (∀ I_3 : Nat → Nat → Int32, I_3 = va_up I 113 (upd (I 113) 0 ((I 113 0) + n)) → (R (some (.int (I_3 113 0))) (am_mk I_3 L, 0, 0)))) ∧ (¬ n ≤ (1500 - (I 113 0)) → (R (some (.int (-6 : Int32))) (am_mk (am_no I 6) L, 0, 0)))))))) : am_Run am_X0 (am_meth d) 150 R 0 [some (.ref 113), some (.int n)] [] (am_mk I L, 0, 0) := by
  refine ar_iload_n (j := 1) (q := 1) rfl rfl rfl rfl ?_
  refine ar_iconst (v := 1) (q := 2) rfl rfl rfl ?_
  obtain ⟨hA, hB⟩ := h
  refine ar_br am_d_ge (t := 12) (q := 5) rfl rfl rfl (fun c_1 => ?_) (fun c_1 => ?_)
  · have h := hB c_1
    clear hA hB
    refine ar_iload_n (j := 1) (q := 13) rfl rfl rfl rfl ?_
    refine ar_sipush (v := 1500) (q := 16) rfl rfl rfl ?_
    refine ar_aload_n (j := 0) (q := 17) rfl rfl rfl rfl ?_
    refine ar_getf (v := .int (I 113 0)) (q := 20) rfl rfl mk_113 rfl rfl ?_
    refine ar_ib (i := .isub) (z := 1500 - (I 113 0)) (q := 21) rfl rfl rfl rfl rfl ?_
    obtain ⟨hA, hB⟩ := h
    refine ar_br am_c_le (t := 31) (q := 24) rfl rfl rfl (fun c_2 => ?_) (fun c_2 => ?_)
    · have h := hA c_2
      clear hA hB
      refine ar_aload_n (j := 0) (q := 32) rfl rfl rfl rfl ?_
      refine ar_st (i := .dup) (n := 1) (st' := [.ref 113, .ref 113]) (q := 33) rfl rfl rfl rfl ?_
      refine ar_getf (v := .int (I 113 0)) (q := 36) rfl rfl mk_113 rfl rfl ?_
      refine ar_iload_n (j := 1) (q := 37) rfl rfl rfl rfl ?_
      refine ar_ib (i := .iadd) (z := (I 113 0) + n) (q := 38) rfl rfl rfl rfl rfl ?_
      obtain ⟨I_3, hI_4⟩ : ∃ z : Nat → Nat → Int32, z = va_up I 113 (upd (I 113) 0 ((I 113 0) + n)) := ⟨_, rfl⟩
      have h := h I_3 hI_4
      refine ar_putf (hp2 := am_mk I_3 L) (q := 41) rfl rfl mk_113 rfl (by rw [hI_4]; exact mk_p113_0) rfl ?_
      refine ar_aload_n (j := 0) (q := 42) rfl rfl rfl rfl ?_
      refine ar_getf (v := .int (I_3 113 0)) (q := 45) rfl rfl mk_113 rfl rfl ?_
      exact ar_iret rfl rfl h
    · have h := hB c_2
      clear hA hB
      refine ar_aload_n (j := 0) (q := 25) rfl rfl rfl rfl ?_
      refine ar_bipush (v := (-6 : Int32)) (q := 27) rfl rfl rfl ?_
      refine ar_invv (as := [.int (-6 : Int32)]) (rest := []) (b2 := (0, 0)) (b3 := (0, 0)) (q := 30) rfl rfl rfl rfl mk_113 rfl rfl rfl rfl rfl ?_
      refine ok_no (j := 6) (by omega) (by decide) (by decide) ?_
      show am_Run am_X0 (am_meth d) 150 R 30 [some (.ref 113), some (.int n)] [.int (-6 : Int32)] (am_mk (am_no I 6) L, 0, 0)
      exact ar_iret rfl rfl h
  · have c_1 := Classical.not_not.mp c_1
    have h := hA c_1
    clear hA hB
    refine ar_aload_n (j := 0) (q := 6) rfl rfl rfl rfl ?_
    refine ar_bipush (v := (-4 : Int32)) (q := 8) rfl rfl rfl ?_
    refine ar_invv (as := [.int (-4 : Int32)]) (rest := []) (b2 := (0, 0)) (b3 := (0, 0)) (q := 11) rfl rfl rfl rfl mk_113 rfl rfl rfl rfl rfl ?_
    refine ok_no (j := 4) (by omega) (by decide) (by decide) ?_
    show am_Run am_X0 (am_meth d) 150 R 11 [some (.ref 113), some (.int n)] [.int (-4 : Int32)] (am_mk (am_no I 4) L, 0, 0)
    exact ar_iret rfl rfl h
theorem r_M_town_0 {d : Nat} (hd : 1 ≤ d) {R : am_R} {I : Nat → Nat → Int32} {L : Nat → Nat → Int64} {t : Int32} {l : Int32} (h : ((0 ≤ t ∧ t < 10 → (((l < 0 → (R (some (.int (-1 : Int32))) (am_mk (am_no I 1) L, 0, 0))) ∧ (¬ l < 0 → (((l ≤ 4 → (∃ j_4 : Nat, j_4 < 10 ∧ t = nI j_4 ∧ (∀ I_7 : Nat → Nat → Int32, I_7 = va_up I 114 (upd (I 114) j_4 l) → (R (some (.int (I 114 j_4))) (am_mk I_7 L, 0, 0))))) ∧ (¬ l ≤ 4 → (R (some (.int (-1 : Int32))) (am_mk (am_no I 1) L, 0, 0))))))))) ∧ (¬ (0 ≤ t ∧ t < 10) → (R (some (.int (-1 : Int32))) (am_mk (am_no I 1) L, 0, 0))))) : am_Run am_X0 (am_meth d) 152 R 0 [some (.ref 113), some (.int t), some (.int l), none] [] (am_mk I L, 0, 0) := by
  refine ar_aload_n (j := 0) (q := 1) rfl rfl rfl rfl ?_
  refine ar_iload_n (j := 1) (q := 2) rfl rfl rfl rfl ?_
  refine ar_invv (as := [.int t]) (rest := []) (b2 := (0, 0)) (b3 := (0, 0)) (q := 5) rfl rfl rfl rfl mk_113 rfl rfl rfl rfl rfl ?_
  obtain ⟨hA, hB⟩ := h
  refine ok_M_isTown (by omega)  (fun c_1 => ?_) (fun c_1 => ?_)
  · have h := hA c_1
    clear hA hB
    show am_Run am_X0 (am_meth d) 152 R 5 [some (.ref 113), some (.int t), some (.int l), none] [.int 1] (am_mk I L, 0, 0)
    refine ar_b0 am_c_eq (t := 17) (q := 8) rfl rfl rfl (fun c9 => absurd c9 (by decide)) (fun _ => ?_)
    refine ar_iload_n (j := 2) (q := 9) rfl rfl rfl rfl ?_
    obtain ⟨hA, hB⟩ := h
    refine ar_b0 am_c_lt (t := 17) (q := 12) rfl rfl rfl (fun c_2 => ?_) (fun c_2 => ?_)
    · have h := hA c_2
      clear hA hB
      refine ar_aload_n (j := 0) (q := 18) rfl rfl rfl rfl ?_
      refine ar_iconst (v := (-1 : Int32)) (q := 19) rfl rfl rfl ?_
      refine ar_invv (as := [.int (-1 : Int32)]) (rest := []) (b2 := (0, 0)) (b3 := (0, 0)) (q := 22) rfl rfl rfl rfl mk_113 rfl rfl rfl rfl rfl ?_
      refine ok_no (j := 1) (by omega) (by decide) (by decide) ?_
      show am_Run am_X0 (am_meth d) 152 R 22 [some (.ref 113), some (.int t), some (.int l), none] [.int (-1 : Int32)] (am_mk (am_no I 1) L, 0, 0)
      exact ar_iret rfl rfl h
    · have h := hB c_2
      clear hA hB
      refine ar_iload_n (j := 2) (q := 13) rfl rfl rfl rfl ?_
      refine ar_iconst (v := 4) (q := 14) rfl rfl rfl ?_
      obtain ⟨hA, hB⟩ := h
      refine ar_br am_c_le (t := 23) (q := 17) rfl rfl rfl (fun c_3 => ?_) (fun c_3 => ?_)
      · have h := hA c_3
        clear hA hB
        refine ar_aload_n (j := 0) (q := 24) rfl rfl rfl rfl ?_
        refine ar_getf (v := .ref 114) (q := 27) rfl rfl mk_113 rfl rfl ?_
        refine ar_iload_n (j := 1) (q := 28) rfl rfl rfl rfl ?_
        obtain ⟨j_4, hx_5, hi_6, h⟩ := h
        refine ar_iald (v := I 114 j_4) (q := 29) rfl mk_114 (am_inE hi_6 hx_5 (by decide)) (am_clE hi_6 hx_5 (by decide)) rfl ?_
        refine ar_istore_n (j := 3) (ls' := [some (.ref 113), some (.int t), some (.int l), some (.int (I 114 j_4))]) (q := 30) rfl rfl rfl rfl rfl ?_
        refine ar_aload_n (j := 0) (q := 31) rfl rfl rfl rfl ?_
        refine ar_getf (v := .ref 114) (q := 34) rfl rfl mk_113 rfl rfl ?_
        refine ar_iload_n (j := 1) (q := 35) rfl rfl rfl rfl ?_
        refine ar_iload_n (j := 2) (q := 36) rfl rfl rfl rfl ?_
        obtain ⟨I_7, hI_8⟩ : ∃ z : Nat → Nat → Int32, z = va_up I 114 (upd (I 114) j_4 l) := ⟨_, rfl⟩
        have h := h I_7 hI_8
        refine ar_iast (hp2 := am_mk I_7 L) (q := 37) rfl mk_114 (am_inE hi_6 hx_5 (by decide)) (by rw [am_clT hi_6 hx_5 (by decide), hI_8]; exact mk_s114) rfl ?_
        refine ar_iload_n (j := 3) (q := 38) rfl rfl rfl rfl ?_
        exact ar_iret rfl rfl h
      · have h := hB c_3
        clear hA hB
        refine ar_aload_n (j := 0) (q := 18) rfl rfl rfl rfl ?_
        refine ar_iconst (v := (-1 : Int32)) (q := 19) rfl rfl rfl ?_
        refine ar_invv (as := [.int (-1 : Int32)]) (rest := []) (b2 := (0, 0)) (b3 := (0, 0)) (q := 22) rfl rfl rfl rfl mk_113 rfl rfl rfl rfl rfl ?_
        refine ok_no (j := 1) (by omega) (by decide) (by decide) ?_
        show am_Run am_X0 (am_meth d) 152 R 22 [some (.ref 113), some (.int t), some (.int l), none] [.int (-1 : Int32)] (am_mk (am_no I 1) L, 0, 0)
        exact ar_iret rfl rfl h
  · have h := hB c_1
    clear hA hB
    show am_Run am_X0 (am_meth d) 152 R 5 [some (.ref 113), some (.int t), some (.int l), none] [.int 0] (am_mk I L, 0, 0)
    refine ar_b0 am_c_eq (t := 17) (q := 8) rfl rfl rfl (fun _ => ?_) (fun c9 => absurd (by decide) c9)
    refine ar_aload_n (j := 0) (q := 18) rfl rfl rfl rfl ?_
    refine ar_iconst (v := (-1 : Int32)) (q := 19) rfl rfl rfl ?_
    refine ar_invv (as := [.int (-1 : Int32)]) (rest := []) (b2 := (0, 0)) (b3 := (0, 0)) (q := 22) rfl rfl rfl rfl mk_113 rfl rfl rfl rfl rfl ?_
    refine ok_no (j := 1) (by omega) (by decide) (by decide) ?_
    show am_Run am_X0 (am_meth d) 152 R 22 [some (.ref 113), some (.int t), some (.int l), none] [.int (-1 : Int32)] (am_mk (am_no I 1) L, 0, 0)
    exact ar_iret rfl rfl h
theorem r_M_way_0 {d : Nat} (hd : 1 ≤ d) {R : am_R} {I : Nat → Nat → Int32} {L : Nat → Nat → Int64} {a : Int32} {b : Int32} {x : Int32} (h : ((0 ≤ a ∧ a < 10 → (((0 ≤ b ∧ b < 10 → (((a = b → (R (some (.int (-1 : Int32))) (am_mk (am_no I 1) L, 0, 0))) ∧ (¬ a = b → (((x < 1 → (R (some (.int (-4 : Int32))) (am_mk (am_no I 4) L, 0, 0))) ∧ (¬ x < 1 → (((x ≤ 240 → (∃ j_6 : Nat, j_6 < 100 ∧ (10 * a) + b = nI j_6 ∧ (∀ I_9 : Nat → Nat → Int32, I_9 = va_up I 115 (upd (I 115) j_6 x) → (∃ j_11 : Nat, j_11 < 100 ∧ (10 * b) + a = nI j_11 ∧ (∀ I_14 : Nat → Nat → Int32, I_14 = va_up I_9 115 (upd (I_9 115) j_11 x) → (R (some (.int (I 115 j_6))) (am_mk I_14 L, 0, 0))))))) ∧ (¬ x ≤ 240 → (R (some (.int (-6 : Int32))) (am_mk (am_no I 6) L, 0, 0)))))))))))) ∧ (¬ (0 ≤ b ∧ b < 10) → (R (some (.int (-1 : Int32))) (am_mk (am_no I 1) L, 0, 0)))))) ∧ (¬ (0 ≤ a ∧ a < 10) → (R (some (.int (-1 : Int32))) (am_mk (am_no I 1) L, 0, 0))))) : am_Run am_X0 (am_meth d) 154 R 0 [some (.ref 113), some (.int a), some (.int b), some (.int x), none] [] (am_mk I L, 0, 0) := by
  refine ar_aload_n (j := 0) (q := 1) rfl rfl rfl rfl ?_
  refine ar_iload_n (j := 1) (q := 2) rfl rfl rfl rfl ?_
  refine ar_invv (as := [.int a]) (rest := []) (b2 := (0, 0)) (b3 := (0, 0)) (q := 5) rfl rfl rfl rfl mk_113 rfl rfl rfl rfl rfl ?_
  obtain ⟨hA, hB⟩ := h
  refine ok_M_isTown (by omega)  (fun c_1 => ?_) (fun c_1 => ?_)
  · have h := hA c_1
    clear hA hB
    show am_Run am_X0 (am_meth d) 154 R 5 [some (.ref 113), some (.int a), some (.int b), some (.int x), none] [.int 1] (am_mk I L, 0, 0)
    refine ar_b0 am_c_eq (t := 21) (q := 8) rfl rfl rfl (fun c9 => absurd c9 (by decide)) (fun _ => ?_)
    refine ar_aload_n (j := 0) (q := 9) rfl rfl rfl rfl ?_
    refine ar_iload_n (j := 2) (q := 10) rfl rfl rfl rfl ?_
    refine ar_invv (as := [.int b]) (rest := []) (b2 := (0, 0)) (b3 := (0, 0)) (q := 13) rfl rfl rfl rfl mk_113 rfl rfl rfl rfl rfl ?_
    obtain ⟨hA, hB⟩ := h
    refine ok_M_isTown (by omega)  (fun c_2 => ?_) (fun c_2 => ?_)
    · have h := hA c_2
      clear hA hB
      show am_Run am_X0 (am_meth d) 154 R 13 [some (.ref 113), some (.int a), some (.int b), some (.int x), none] [.int 1] (am_mk I L, 0, 0)
      refine ar_b0 am_c_eq (t := 21) (q := 16) rfl rfl rfl (fun c9 => absurd c9 (by decide)) (fun _ => ?_)
      refine ar_iload_n (j := 1) (q := 17) rfl rfl rfl rfl ?_
      refine ar_iload_n (j := 2) (q := 18) rfl rfl rfl rfl ?_
      obtain ⟨hA, hB⟩ := h
      refine ar_br am_c_ne (t := 27) (q := 21) rfl rfl rfl (fun c_3 => ?_) (fun c_3 => ?_)
      · have h := hB c_3
        clear hA hB
        refine ar_iload_n (j := 3) (q := 28) rfl rfl rfl rfl ?_
        refine ar_iconst (v := 1) (q := 29) rfl rfl rfl ?_
        obtain ⟨hA, hB⟩ := h
        refine ar_br am_d_ge (t := 39) (q := 32) rfl rfl rfl (fun c_4 => ?_) (fun c_4 => ?_)
        · have h := hB c_4
          clear hA hB
          refine ar_iload_n (j := 3) (q := 40) rfl rfl rfl rfl ?_
          refine ar_sipush (v := 240) (q := 43) rfl rfl rfl ?_
          obtain ⟨hA, hB⟩ := h
          refine ar_br am_c_le (t := 53) (q := 46) rfl rfl rfl (fun c_5 => ?_) (fun c_5 => ?_)
          · have h := hA c_5
            clear hA hB
            refine ar_aload_n (j := 0) (q := 54) rfl rfl rfl rfl ?_
            refine ar_getf (v := .ref 115) (q := 57) rfl rfl mk_113 rfl rfl ?_
            refine ar_bipush (v := 10) (q := 59) rfl rfl rfl ?_
            refine ar_iload_n (j := 1) (q := 60) rfl rfl rfl rfl ?_
            refine ar_ib (i := .imul) (z := 10 * a) (q := 61) rfl rfl rfl rfl rfl ?_
            refine ar_iload_n (j := 2) (q := 62) rfl rfl rfl rfl ?_
            refine ar_ib (i := .iadd) (z := (10 * a) + b) (q := 63) rfl rfl rfl rfl rfl ?_
            obtain ⟨j_6, hx_7, hi_8, h⟩ := h
            refine ar_iald (v := I 115 j_6) (q := 64) rfl mk_115 (am_inE hi_8 hx_7 (by decide)) (am_clE hi_8 hx_7 (by decide)) rfl ?_
            refine ar_istore (ls' := [some (.ref 113), some (.int a), some (.int b), some (.int x), some (.int (I 115 j_6))]) (q := 66) rfl rfl rfl rfl ?_
            refine ar_aload_n (j := 0) (q := 67) rfl rfl rfl rfl ?_
            refine ar_getf (v := .ref 115) (q := 70) rfl rfl mk_113 rfl rfl ?_
            refine ar_bipush (v := 10) (q := 72) rfl rfl rfl ?_
            refine ar_iload_n (j := 1) (q := 73) rfl rfl rfl rfl ?_
            refine ar_ib (i := .imul) (z := 10 * a) (q := 74) rfl rfl rfl rfl rfl ?_
            refine ar_iload_n (j := 2) (q := 75) rfl rfl rfl rfl ?_
            refine ar_ib (i := .iadd) (z := (10 * a) + b) (q := 76) rfl rfl rfl rfl rfl ?_
            refine ar_iload_n (j := 3) (q := 77) rfl rfl rfl rfl ?_
            obtain ⟨I_9, hI_10⟩ : ∃ z : Nat → Nat → Int32, z = va_up I 115 (upd (I 115) j_6 x) := ⟨_, rfl⟩
            have h := h I_9 hI_10
            refine ar_iast (hp2 := am_mk I_9 L) (q := 78) rfl mk_115 (am_inE hi_8 hx_7 (by decide)) (by rw [am_clT hi_8 hx_7 (by decide), hI_10]; exact mk_s115) rfl ?_
            refine ar_aload_n (j := 0) (q := 79) rfl rfl rfl rfl ?_
            refine ar_getf (v := .ref 115) (q := 82) rfl rfl mk_113 rfl rfl ?_
            refine ar_bipush (v := 10) (q := 84) rfl rfl rfl ?_
            refine ar_iload_n (j := 2) (q := 85) rfl rfl rfl rfl ?_
            refine ar_ib (i := .imul) (z := 10 * b) (q := 86) rfl rfl rfl rfl rfl ?_
            refine ar_iload_n (j := 1) (q := 87) rfl rfl rfl rfl ?_
            refine ar_ib (i := .iadd) (z := (10 * b) + a) (q := 88) rfl rfl rfl rfl rfl ?_
            refine ar_iload_n (j := 3) (q := 89) rfl rfl rfl rfl ?_
            obtain ⟨j_11, hx_12, hi_13, h⟩ := h
            obtain ⟨I_14, hI_15⟩ : ∃ z : Nat → Nat → Int32, z = va_up I_9 115 (upd (I_9 115) j_11 x) := ⟨_, rfl⟩
            have h := h I_14 hI_15
            refine ar_iast (hp2 := am_mk I_14 L) (q := 90) rfl mk_115 (am_inE hi_13 hx_12 (by decide)) (by rw [am_clT hi_13 hx_12 (by decide), hI_15]; exact mk_s115) rfl ?_
            refine ar_iload (q := 92) rfl rfl rfl ?_
            exact ar_iret rfl rfl h
          · have h := hB c_5
            clear hA hB
            refine ar_aload_n (j := 0) (q := 47) rfl rfl rfl rfl ?_
            refine ar_bipush (v := (-6 : Int32)) (q := 49) rfl rfl rfl ?_
            refine ar_invv (as := [.int (-6 : Int32)]) (rest := []) (b2 := (0, 0)) (b3 := (0, 0)) (q := 52) rfl rfl rfl rfl mk_113 rfl rfl rfl rfl rfl ?_
            refine ok_no (j := 6) (by omega) (by decide) (by decide) ?_
            show am_Run am_X0 (am_meth d) 154 R 52 [some (.ref 113), some (.int a), some (.int b), some (.int x), none] [.int (-6 : Int32)] (am_mk (am_no I 6) L, 0, 0)
            exact ar_iret rfl rfl h
        · have c_4 := Classical.not_not.mp c_4
          have h := hA c_4
          clear hA hB
          refine ar_aload_n (j := 0) (q := 33) rfl rfl rfl rfl ?_
          refine ar_bipush (v := (-4 : Int32)) (q := 35) rfl rfl rfl ?_
          refine ar_invv (as := [.int (-4 : Int32)]) (rest := []) (b2 := (0, 0)) (b3 := (0, 0)) (q := 38) rfl rfl rfl rfl mk_113 rfl rfl rfl rfl rfl ?_
          refine ok_no (j := 4) (by omega) (by decide) (by decide) ?_
          show am_Run am_X0 (am_meth d) 154 R 38 [some (.ref 113), some (.int a), some (.int b), some (.int x), none] [.int (-4 : Int32)] (am_mk (am_no I 4) L, 0, 0)
          exact ar_iret rfl rfl h
      · have c_3 := Classical.not_not.mp c_3
        have h := hA c_3
        clear hA hB
        refine ar_aload_n (j := 0) (q := 22) rfl rfl rfl rfl ?_
        refine ar_iconst (v := (-1 : Int32)) (q := 23) rfl rfl rfl ?_
        refine ar_invv (as := [.int (-1 : Int32)]) (rest := []) (b2 := (0, 0)) (b3 := (0, 0)) (q := 26) rfl rfl rfl rfl mk_113 rfl rfl rfl rfl rfl ?_
        refine ok_no (j := 1) (by omega) (by decide) (by decide) ?_
        show am_Run am_X0 (am_meth d) 154 R 26 [some (.ref 113), some (.int a), some (.int b), some (.int x), none] [.int (-1 : Int32)] (am_mk (am_no I 1) L, 0, 0)
        exact ar_iret rfl rfl h
    · have h := hB c_2
      clear hA hB
      show am_Run am_X0 (am_meth d) 154 R 13 [some (.ref 113), some (.int a), some (.int b), some (.int x), none] [.int 0] (am_mk I L, 0, 0)
      refine ar_b0 am_c_eq (t := 21) (q := 16) rfl rfl rfl (fun _ => ?_) (fun c9 => absurd (by decide) c9)
      refine ar_aload_n (j := 0) (q := 22) rfl rfl rfl rfl ?_
      refine ar_iconst (v := (-1 : Int32)) (q := 23) rfl rfl rfl ?_
      refine ar_invv (as := [.int (-1 : Int32)]) (rest := []) (b2 := (0, 0)) (b3 := (0, 0)) (q := 26) rfl rfl rfl rfl mk_113 rfl rfl rfl rfl rfl ?_
      refine ok_no (j := 1) (by omega) (by decide) (by decide) ?_
      show am_Run am_X0 (am_meth d) 154 R 26 [some (.ref 113), some (.int a), some (.int b), some (.int x), none] [.int (-1 : Int32)] (am_mk (am_no I 1) L, 0, 0)
      exact ar_iret rfl rfl h
  · have h := hB c_1
    clear hA hB
    show am_Run am_X0 (am_meth d) 154 R 5 [some (.ref 113), some (.int a), some (.int b), some (.int x), none] [.int 0] (am_mk I L, 0, 0)
    refine ar_b0 am_c_eq (t := 21) (q := 8) rfl rfl rfl (fun _ => ?_) (fun c9 => absurd (by decide) c9)
    refine ar_aload_n (j := 0) (q := 22) rfl rfl rfl rfl ?_
    refine ar_iconst (v := (-1 : Int32)) (q := 23) rfl rfl rfl ?_
    refine ar_invv (as := [.int (-1 : Int32)]) (rest := []) (b2 := (0, 0)) (b3 := (0, 0)) (q := 26) rfl rfl rfl rfl mk_113 rfl rfl rfl rfl rfl ?_
    refine ok_no (j := 1) (by omega) (by decide) (by decide) ?_
    show am_Run am_X0 (am_meth d) 154 R 26 [some (.ref 113), some (.int a), some (.int b), some (.int x), none] [.int (-1 : Int32)] (am_mk (am_no I 1) L, 0, 0)
    exact ar_iret rfl rfl h
theorem r_M_limit_0 {d : Nat} (hd : 1 ≤ d) {R : am_R} {I : Nat → Nat → Int32} {L : Nat → Nat → Int64} {l : Int32} {x : Int32} (h : ((l < 0 → (R (some (.int (-1 : Int32))) (am_mk (am_no I 1) L, 0, 0))) ∧ (¬ l < 0 → (((l ≤ 4 → (((x < 0 → (R (some (.int (-4 : Int32))) (am_mk (am_no I 4) L, 0, 0))) ∧ (¬ x < 0 → (((x ≤ 180 → (∃ j_5 : Nat, j_5 < 5 ∧ l = nI j_5 ∧ (∀ I_8 : Nat → Nat → Int32, I_8 = va_up I 116 (upd (I 116) j_5 x) → (R (some (.int (I 116 j_5))) (am_mk I_8 L, 0, 0))))) ∧ (¬ x ≤ 180 → (R (some (.int (-6 : Int32))) (am_mk (am_no I 6) L, 0, 0))))))))) ∧ (¬ l ≤ 4 → (R (some (.int (-1 : Int32))) (am_mk (am_no I 1) L, 0, 0)))))))) : am_Run am_X0 (am_meth d) 155 R 0 [some (.ref 113), some (.int l), some (.int x), none] [] (am_mk I L, 0, 0) := by
  refine ar_iload_n (j := 1) (q := 1) rfl rfl rfl rfl ?_
  obtain ⟨hA, hB⟩ := h
  refine ar_b0 am_c_lt (t := 9) (q := 4) rfl rfl rfl (fun c_1 => ?_) (fun c_1 => ?_)
  · have h := hA c_1
    clear hA hB
    refine ar_aload_n (j := 0) (q := 10) rfl rfl rfl rfl ?_
    refine ar_iconst (v := (-1 : Int32)) (q := 11) rfl rfl rfl ?_
    refine ar_invv (as := [.int (-1 : Int32)]) (rest := []) (b2 := (0, 0)) (b3 := (0, 0)) (q := 14) rfl rfl rfl rfl mk_113 rfl rfl rfl rfl rfl ?_
    refine ok_no (j := 1) (by omega) (by decide) (by decide) ?_
    show am_Run am_X0 (am_meth d) 155 R 14 [some (.ref 113), some (.int l), some (.int x), none] [.int (-1 : Int32)] (am_mk (am_no I 1) L, 0, 0)
    exact ar_iret rfl rfl h
  · have h := hB c_1
    clear hA hB
    refine ar_iload_n (j := 1) (q := 5) rfl rfl rfl rfl ?_
    refine ar_iconst (v := 4) (q := 6) rfl rfl rfl ?_
    obtain ⟨hA, hB⟩ := h
    refine ar_br am_c_le (t := 15) (q := 9) rfl rfl rfl (fun c_2 => ?_) (fun c_2 => ?_)
    · have h := hA c_2
      clear hA hB
      refine ar_iload_n (j := 2) (q := 16) rfl rfl rfl rfl ?_
      obtain ⟨hA, hB⟩ := h
      refine ar_b0 am_d_ge (t := 26) (q := 19) rfl rfl rfl (fun c_3 => ?_) (fun c_3 => ?_)
      · have h := hB c_3
        clear hA hB
        refine ar_iload_n (j := 2) (q := 27) rfl rfl rfl rfl ?_
        refine ar_sipush (v := 180) (q := 30) rfl rfl rfl ?_
        obtain ⟨hA, hB⟩ := h
        refine ar_br am_c_le (t := 40) (q := 33) rfl rfl rfl (fun c_4 => ?_) (fun c_4 => ?_)
        · have h := hA c_4
          clear hA hB
          refine ar_aload_n (j := 0) (q := 41) rfl rfl rfl rfl ?_
          refine ar_getf (v := .ref 116) (q := 44) rfl rfl mk_113 rfl rfl ?_
          refine ar_iload_n (j := 1) (q := 45) rfl rfl rfl rfl ?_
          obtain ⟨j_5, hx_6, hi_7, h⟩ := h
          refine ar_iald (v := I 116 j_5) (q := 46) rfl mk_116 (am_inE hi_7 hx_6 (by decide)) (am_clE hi_7 hx_6 (by decide)) rfl ?_
          refine ar_istore_n (j := 3) (ls' := [some (.ref 113), some (.int l), some (.int x), some (.int (I 116 j_5))]) (q := 47) rfl rfl rfl rfl rfl ?_
          refine ar_aload_n (j := 0) (q := 48) rfl rfl rfl rfl ?_
          refine ar_getf (v := .ref 116) (q := 51) rfl rfl mk_113 rfl rfl ?_
          refine ar_iload_n (j := 1) (q := 52) rfl rfl rfl rfl ?_
          refine ar_iload_n (j := 2) (q := 53) rfl rfl rfl rfl ?_
          obtain ⟨I_8, hI_9⟩ : ∃ z : Nat → Nat → Int32, z = va_up I 116 (upd (I 116) j_5 x) := ⟨_, rfl⟩
          have h := h I_8 hI_9
          refine ar_iast (hp2 := am_mk I_8 L) (q := 54) rfl mk_116 (am_inE hi_7 hx_6 (by decide)) (by rw [am_clT hi_7 hx_6 (by decide), hI_9]; exact mk_s116) rfl ?_
          refine ar_iload_n (j := 3) (q := 55) rfl rfl rfl rfl ?_
          exact ar_iret rfl rfl h
        · have h := hB c_4
          clear hA hB
          refine ar_aload_n (j := 0) (q := 34) rfl rfl rfl rfl ?_
          refine ar_bipush (v := (-6 : Int32)) (q := 36) rfl rfl rfl ?_
          refine ar_invv (as := [.int (-6 : Int32)]) (rest := []) (b2 := (0, 0)) (b3 := (0, 0)) (q := 39) rfl rfl rfl rfl mk_113 rfl rfl rfl rfl rfl ?_
          refine ok_no (j := 6) (by omega) (by decide) (by decide) ?_
          show am_Run am_X0 (am_meth d) 155 R 39 [some (.ref 113), some (.int l), some (.int x), none] [.int (-6 : Int32)] (am_mk (am_no I 6) L, 0, 0)
          exact ar_iret rfl rfl h
      · have c_3 := Classical.not_not.mp c_3
        have h := hA c_3
        clear hA hB
        refine ar_aload_n (j := 0) (q := 20) rfl rfl rfl rfl ?_
        refine ar_bipush (v := (-4 : Int32)) (q := 22) rfl rfl rfl ?_
        refine ar_invv (as := [.int (-4 : Int32)]) (rest := []) (b2 := (0, 0)) (b3 := (0, 0)) (q := 25) rfl rfl rfl rfl mk_113 rfl rfl rfl rfl rfl ?_
        refine ok_no (j := 4) (by omega) (by decide) (by decide) ?_
        show am_Run am_X0 (am_meth d) 155 R 25 [some (.ref 113), some (.int l), some (.int x), none] [.int (-4 : Int32)] (am_mk (am_no I 4) L, 0, 0)
        exact ar_iret rfl rfl h
    · have h := hB c_2
      clear hA hB
      refine ar_aload_n (j := 0) (q := 10) rfl rfl rfl rfl ?_
      refine ar_iconst (v := (-1 : Int32)) (q := 11) rfl rfl rfl ?_
      refine ar_invv (as := [.int (-1 : Int32)]) (rest := []) (b2 := (0, 0)) (b3 := (0, 0)) (q := 14) rfl rfl rfl rfl mk_113 rfl rfl rfl rfl rfl ?_
      refine ok_no (j := 1) (by omega) (by decide) (by decide) ?_
      show am_Run am_X0 (am_meth d) 155 R 14 [some (.ref 113), some (.int l), some (.int x), none] [.int (-1 : Int32)] (am_mk (am_no I 1) L, 0, 0)
      exact ar_iret rfl rfl h
theorem r_M_keeper_0 {d : Nat} (hd : 1 ≤ d) {R : am_R} {I : Nat → Nat → Int32} {L : Nat → Nat → Int64} {t : Int32} {b : Int32} {p : Int32} {m : Int32} (h : ((0 ≤ t ∧ t < 10 → (((b < 0 → (R (some (.int (-4 : Int32))) (am_mk (am_no I 4) L, 0, 0))) ∧ (¬ b < 0 → (((p < 1 → (R (some (.int (-4 : Int32))) (am_mk (am_no I 4) L, 0, 0))) ∧ (¬ p < 1 → (((m < 0 → (R (some (.int (-4 : Int32))) (am_mk (am_no I 4) L, 0, 0))) ∧ (¬ m < 0 → (((b ≤ 255 → (((p ≤ 2 → (((m ≤ 99999 → ((((I 113 4) = 20 → (R (some (.int (-6 : Int32))) (am_mk (am_no I 6) L, 0, 0))) ∧ (¬ (I 113 4) = 20 → (∃ j_9 : Nat, j_9 < 20 ∧ I 113 4 = nI j_9 ∧ (∀ I_12 : Nat → Nat → Int32, I_12 = va_up I 117 (upd (I 117) j_9 t) → (∃ j_14 : Nat, j_14 < 20 ∧ I_12 113 4 = nI j_14 ∧ (∀ I_17 : Nat → Nat → Int32, I_17 = va_up I_12 118 (upd (I_12 118) j_14 b) → (∃ j_19 : Nat, j_19 < 20 ∧ I_17 113 4 = nI j_19 ∧ (∀ I_22 : Nat → Nat → Int32, I_22 = va_up I_17 119 (upd (I_17 119) j_19 p) → (∃ j_24 : Nat, j_24 < 20 ∧ I_22 113 4 = nI j_24 ∧ (∀ I_27 : Nat → Nat → Int32, I_27 = va_up I_22 120 (upd (I_22 120) j_24 m) → (∀ I_29 : Nat → Nat → Int32, I_29 = va_up I_27 113 (upd (I_27 113) 4 ((I_27 113 4) + 1)) → (R (some (.int ((I_29 113 4) - 1))) (am_mk I_29 L, 0, 0))))))))))))))) ∧ (¬ m ≤ 99999 → (R (some (.int (-6 : Int32))) (am_mk (am_no I 6) L, 0, 0)))))) ∧ (¬ p ≤ 2 → (R (some (.int (-6 : Int32))) (am_mk (am_no I 6) L, 0, 0)))))) ∧ (¬ b ≤ 255 → (R (some (.int (-6 : Int32))) (am_mk (am_no I 6) L, 0, 0))))))))))))))) ∧ (¬ (0 ≤ t ∧ t < 10) → (R (some (.int (-1 : Int32))) (am_mk (am_no I 1) L, 0, 0))))) : am_Run am_X0 (am_meth d) 156 R 0 [some (.ref 113), some (.int t), some (.int b), some (.int p), some (.int m)] [] (am_mk I L, 0, 0) := by
  refine ar_aload_n (j := 0) (q := 1) rfl rfl rfl rfl ?_
  refine ar_iload_n (j := 1) (q := 2) rfl rfl rfl rfl ?_
  refine ar_invv (as := [.int t]) (rest := []) (b2 := (0, 0)) (b3 := (0, 0)) (q := 5) rfl rfl rfl rfl mk_113 rfl rfl rfl rfl rfl ?_
  obtain ⟨hA, hB⟩ := h
  refine ok_M_isTown (by omega)  (fun c_1 => ?_) (fun c_1 => ?_)
  · have h := hA c_1
    clear hA hB
    show am_Run am_X0 (am_meth d) 156 R 5 [some (.ref 113), some (.int t), some (.int b), some (.int p), some (.int m)] [.int 1] (am_mk I L, 0, 0)
    refine ar_b0 am_c_ne (t := 14) (q := 8) rfl rfl rfl (fun _ => ?_) (fun c9 => absurd (by decide) c9)
    refine ar_iload_n (j := 2) (q := 15) rfl rfl rfl rfl ?_
    obtain ⟨hA, hB⟩ := h
    refine ar_b0 am_c_lt (t := 28) (q := 18) rfl rfl rfl (fun c_2 => ?_) (fun c_2 => ?_)
    · have h := hA c_2
      clear hA hB
      refine ar_aload_n (j := 0) (q := 29) rfl rfl rfl rfl ?_
      refine ar_bipush (v := (-4 : Int32)) (q := 31) rfl rfl rfl ?_
      refine ar_invv (as := [.int (-4 : Int32)]) (rest := []) (b2 := (0, 0)) (b3 := (0, 0)) (q := 34) rfl rfl rfl rfl mk_113 rfl rfl rfl rfl rfl ?_
      refine ok_no (j := 4) (by omega) (by decide) (by decide) ?_
      show am_Run am_X0 (am_meth d) 156 R 34 [some (.ref 113), some (.int t), some (.int b), some (.int p), some (.int m)] [.int (-4 : Int32)] (am_mk (am_no I 4) L, 0, 0)
      exact ar_iret rfl rfl h
    · have h := hB c_2
      clear hA hB
      refine ar_iload_n (j := 3) (q := 19) rfl rfl rfl rfl ?_
      refine ar_iconst (v := 1) (q := 20) rfl rfl rfl ?_
      obtain ⟨hA, hB⟩ := h
      refine ar_br am_c_lt (t := 28) (q := 23) rfl rfl rfl (fun c_3 => ?_) (fun c_3 => ?_)
      · have h := hA c_3
        clear hA hB
        refine ar_aload_n (j := 0) (q := 29) rfl rfl rfl rfl ?_
        refine ar_bipush (v := (-4 : Int32)) (q := 31) rfl rfl rfl ?_
        refine ar_invv (as := [.int (-4 : Int32)]) (rest := []) (b2 := (0, 0)) (b3 := (0, 0)) (q := 34) rfl rfl rfl rfl mk_113 rfl rfl rfl rfl rfl ?_
        refine ok_no (j := 4) (by omega) (by decide) (by decide) ?_
        show am_Run am_X0 (am_meth d) 156 R 34 [some (.ref 113), some (.int t), some (.int b), some (.int p), some (.int m)] [.int (-4 : Int32)] (am_mk (am_no I 4) L, 0, 0)
        exact ar_iret rfl rfl h
      · have h := hB c_3
        clear hA hB
        refine ar_iload (q := 25) rfl rfl rfl ?_
        obtain ⟨hA, hB⟩ := h
        refine ar_b0 am_d_ge (t := 35) (q := 28) rfl rfl rfl (fun c_4 => ?_) (fun c_4 => ?_)
        · have h := hB c_4
          clear hA hB
          refine ar_iload_n (j := 2) (q := 36) rfl rfl rfl rfl ?_
          refine ar_sipush (v := 255) (q := 39) rfl rfl rfl ?_
          obtain ⟨hA, hB⟩ := h
          refine ar_br am_d_gt (t := 63) (q := 42) rfl rfl rfl (fun c_5 => ?_) (fun c_5 => ?_)
          · have h := hB c_5
            clear hA hB
            refine ar_aload_n (j := 0) (q := 64) rfl rfl rfl rfl ?_
            refine ar_bipush (v := (-6 : Int32)) (q := 66) rfl rfl rfl ?_
            refine ar_invv (as := [.int (-6 : Int32)]) (rest := []) (b2 := (0, 0)) (b3 := (0, 0)) (q := 69) rfl rfl rfl rfl mk_113 rfl rfl rfl rfl rfl ?_
            refine ok_no (j := 6) (by omega) (by decide) (by decide) ?_
            show am_Run am_X0 (am_meth d) 156 R 69 [some (.ref 113), some (.int t), some (.int b), some (.int p), some (.int m)] [.int (-6 : Int32)] (am_mk (am_no I 6) L, 0, 0)
            exact ar_iret rfl rfl h
          · have c_5 := Classical.not_not.mp c_5
            have h := hA c_5
            clear hA hB
            refine ar_iload_n (j := 3) (q := 43) rfl rfl rfl rfl ?_
            refine ar_iconst (v := 2) (q := 44) rfl rfl rfl ?_
            obtain ⟨hA, hB⟩ := h
            refine ar_br am_d_gt (t := 63) (q := 47) rfl rfl rfl (fun c_6 => ?_) (fun c_6 => ?_)
            · have h := hB c_6
              clear hA hB
              refine ar_aload_n (j := 0) (q := 64) rfl rfl rfl rfl ?_
              refine ar_bipush (v := (-6 : Int32)) (q := 66) rfl rfl rfl ?_
              refine ar_invv (as := [.int (-6 : Int32)]) (rest := []) (b2 := (0, 0)) (b3 := (0, 0)) (q := 69) rfl rfl rfl rfl mk_113 rfl rfl rfl rfl rfl ?_
              refine ok_no (j := 6) (by omega) (by decide) (by decide) ?_
              show am_Run am_X0 (am_meth d) 156 R 69 [some (.ref 113), some (.int t), some (.int b), some (.int p), some (.int m)] [.int (-6 : Int32)] (am_mk (am_no I 6) L, 0, 0)
              exact ar_iret rfl rfl h
            · have c_6 := Classical.not_not.mp c_6
              have h := hA c_6
              clear hA hB
              refine ar_iload (q := 49) rfl rfl rfl ?_
              refine ar_ldc (v := 99999) (q := 51) rfl rfl rfl ?_
              obtain ⟨hA, hB⟩ := h
              refine ar_br am_d_gt (t := 63) (q := 54) rfl rfl rfl (fun c_7 => ?_) (fun c_7 => ?_)
              · have h := hB c_7
                clear hA hB
                refine ar_aload_n (j := 0) (q := 64) rfl rfl rfl rfl ?_
                refine ar_bipush (v := (-6 : Int32)) (q := 66) rfl rfl rfl ?_
                refine ar_invv (as := [.int (-6 : Int32)]) (rest := []) (b2 := (0, 0)) (b3 := (0, 0)) (q := 69) rfl rfl rfl rfl mk_113 rfl rfl rfl rfl rfl ?_
                refine ok_no (j := 6) (by omega) (by decide) (by decide) ?_
                show am_Run am_X0 (am_meth d) 156 R 69 [some (.ref 113), some (.int t), some (.int b), some (.int p), some (.int m)] [.int (-6 : Int32)] (am_mk (am_no I 6) L, 0, 0)
                exact ar_iret rfl rfl h
              · have c_7 := Classical.not_not.mp c_7
                have h := hA c_7
                clear hA hB
                refine ar_aload_n (j := 0) (q := 55) rfl rfl rfl rfl ?_
                refine ar_getf (v := .int (I 113 4)) (q := 58) rfl rfl mk_113 rfl rfl ?_
                refine ar_bipush (v := 20) (q := 60) rfl rfl rfl ?_
                obtain ⟨hA, hB⟩ := h
                refine ar_br am_c_ne (t := 70) (q := 63) rfl rfl rfl (fun c_8 => ?_) (fun c_8 => ?_)
                · have h := hB c_8
                  clear hA hB
                  refine ar_aload_n (j := 0) (q := 71) rfl rfl rfl rfl ?_
                  refine ar_getf (v := .ref 117) (q := 74) rfl rfl mk_113 rfl rfl ?_
                  refine ar_aload_n (j := 0) (q := 75) rfl rfl rfl rfl ?_
                  refine ar_getf (v := .int (I 113 4)) (q := 78) rfl rfl mk_113 rfl rfl ?_
                  refine ar_iload_n (j := 1) (q := 79) rfl rfl rfl rfl ?_
                  obtain ⟨j_9, hx_10, hi_11, h⟩ := h
                  obtain ⟨I_12, hI_13⟩ : ∃ z : Nat → Nat → Int32, z = va_up I 117 (upd (I 117) j_9 t) := ⟨_, rfl⟩
                  have h := h I_12 hI_13
                  refine ar_iast (hp2 := am_mk I_12 L) (q := 80) rfl mk_117 (am_inE hi_11 hx_10 (by decide)) (by rw [am_clT hi_11 hx_10 (by decide), hI_13]; exact mk_s117) rfl ?_
                  refine ar_aload_n (j := 0) (q := 81) rfl rfl rfl rfl ?_
                  refine ar_getf (v := .ref 118) (q := 84) rfl rfl mk_113 rfl rfl ?_
                  refine ar_aload_n (j := 0) (q := 85) rfl rfl rfl rfl ?_
                  refine ar_getf (v := .int (I_12 113 4)) (q := 88) rfl rfl mk_113 rfl rfl ?_
                  refine ar_iload_n (j := 2) (q := 89) rfl rfl rfl rfl ?_
                  obtain ⟨j_14, hx_15, hi_16, h⟩ := h
                  obtain ⟨I_17, hI_18⟩ : ∃ z : Nat → Nat → Int32, z = va_up I_12 118 (upd (I_12 118) j_14 b) := ⟨_, rfl⟩
                  have h := h I_17 hI_18
                  refine ar_iast (hp2 := am_mk I_17 L) (q := 90) rfl mk_118 (am_inE hi_16 hx_15 (by decide)) (by rw [am_clT hi_16 hx_15 (by decide), hI_18]; exact mk_s118) rfl ?_
                  refine ar_aload_n (j := 0) (q := 91) rfl rfl rfl rfl ?_
                  refine ar_getf (v := .ref 119) (q := 94) rfl rfl mk_113 rfl rfl ?_
                  refine ar_aload_n (j := 0) (q := 95) rfl rfl rfl rfl ?_
                  refine ar_getf (v := .int (I_17 113 4)) (q := 98) rfl rfl mk_113 rfl rfl ?_
                  refine ar_iload_n (j := 3) (q := 99) rfl rfl rfl rfl ?_
                  obtain ⟨j_19, hx_20, hi_21, h⟩ := h
                  obtain ⟨I_22, hI_23⟩ : ∃ z : Nat → Nat → Int32, z = va_up I_17 119 (upd (I_17 119) j_19 p) := ⟨_, rfl⟩
                  have h := h I_22 hI_23
                  refine ar_iast (hp2 := am_mk I_22 L) (q := 100) rfl mk_119 (am_inE hi_21 hx_20 (by decide)) (by rw [am_clT hi_21 hx_20 (by decide), hI_23]; exact mk_s119) rfl ?_
                  refine ar_aload_n (j := 0) (q := 101) rfl rfl rfl rfl ?_
                  refine ar_getf (v := .ref 120) (q := 104) rfl rfl mk_113 rfl rfl ?_
                  refine ar_aload_n (j := 0) (q := 105) rfl rfl rfl rfl ?_
                  refine ar_getf (v := .int (I_22 113 4)) (q := 108) rfl rfl mk_113 rfl rfl ?_
                  refine ar_iload (q := 110) rfl rfl rfl ?_
                  obtain ⟨j_24, hx_25, hi_26, h⟩ := h
                  obtain ⟨I_27, hI_28⟩ : ∃ z : Nat → Nat → Int32, z = va_up I_22 120 (upd (I_22 120) j_24 m) := ⟨_, rfl⟩
                  have h := h I_27 hI_28
                  refine ar_iast (hp2 := am_mk I_27 L) (q := 111) rfl mk_120 (am_inE hi_26 hx_25 (by decide)) (by rw [am_clT hi_26 hx_25 (by decide), hI_28]; exact mk_s120) rfl ?_
                  refine ar_aload_n (j := 0) (q := 112) rfl rfl rfl rfl ?_
                  refine ar_st (i := .dup) (n := 1) (st' := [.ref 113, .ref 113]) (q := 113) rfl rfl rfl rfl ?_
                  refine ar_getf (v := .int (I_27 113 4)) (q := 116) rfl rfl mk_113 rfl rfl ?_
                  refine ar_iconst (v := 1) (q := 117) rfl rfl rfl ?_
                  refine ar_ib (i := .iadd) (z := (I_27 113 4) + 1) (q := 118) rfl rfl rfl rfl rfl ?_
                  obtain ⟨I_29, hI_30⟩ : ∃ z : Nat → Nat → Int32, z = va_up I_27 113 (upd (I_27 113) 4 ((I_27 113 4) + 1)) := ⟨_, rfl⟩
                  have h := h I_29 hI_30
                  refine ar_putf (hp2 := am_mk I_29 L) (q := 121) rfl rfl mk_113 rfl (by rw [hI_30]; exact mk_p113_4) rfl ?_
                  refine ar_aload_n (j := 0) (q := 122) rfl rfl rfl rfl ?_
                  refine ar_getf (v := .int (I_29 113 4)) (q := 125) rfl rfl mk_113 rfl rfl ?_
                  refine ar_iconst (v := 1) (q := 126) rfl rfl rfl ?_
                  refine ar_ib (i := .isub) (z := (I_29 113 4) - 1) (q := 127) rfl rfl rfl rfl rfl ?_
                  exact ar_iret rfl rfl h
                · have c_8 := Classical.not_not.mp c_8
                  have h := hA c_8
                  clear hA hB
                  refine ar_aload_n (j := 0) (q := 64) rfl rfl rfl rfl ?_
                  refine ar_bipush (v := (-6 : Int32)) (q := 66) rfl rfl rfl ?_
                  refine ar_invv (as := [.int (-6 : Int32)]) (rest := []) (b2 := (0, 0)) (b3 := (0, 0)) (q := 69) rfl rfl rfl rfl mk_113 rfl rfl rfl rfl rfl ?_
                  refine ok_no (j := 6) (by omega) (by decide) (by decide) ?_
                  show am_Run am_X0 (am_meth d) 156 R 69 [some (.ref 113), some (.int t), some (.int b), some (.int p), some (.int m)] [.int (-6 : Int32)] (am_mk (am_no I 6) L, 0, 0)
                  exact ar_iret rfl rfl h
        · have c_4 := Classical.not_not.mp c_4
          have h := hA c_4
          clear hA hB
          refine ar_aload_n (j := 0) (q := 29) rfl rfl rfl rfl ?_
          refine ar_bipush (v := (-4 : Int32)) (q := 31) rfl rfl rfl ?_
          refine ar_invv (as := [.int (-4 : Int32)]) (rest := []) (b2 := (0, 0)) (b3 := (0, 0)) (q := 34) rfl rfl rfl rfl mk_113 rfl rfl rfl rfl rfl ?_
          refine ok_no (j := 4) (by omega) (by decide) (by decide) ?_
          show am_Run am_X0 (am_meth d) 156 R 34 [some (.ref 113), some (.int t), some (.int b), some (.int p), some (.int m)] [.int (-4 : Int32)] (am_mk (am_no I 4) L, 0, 0)
          exact ar_iret rfl rfl h
  · have h := hB c_1
    clear hA hB
    show am_Run am_X0 (am_meth d) 156 R 5 [some (.ref 113), some (.int t), some (.int b), some (.int p), some (.int m)] [.int 0] (am_mk I L, 0, 0)
    refine ar_b0 am_c_ne (t := 14) (q := 8) rfl rfl rfl (fun c9 => absurd (by decide) c9) (fun _ => ?_)
    refine ar_aload_n (j := 0) (q := 9) rfl rfl rfl rfl ?_
    refine ar_iconst (v := (-1 : Int32)) (q := 10) rfl rfl rfl ?_
    refine ar_invv (as := [.int (-1 : Int32)]) (rest := []) (b2 := (0, 0)) (b3 := (0, 0)) (q := 13) rfl rfl rfl rfl mk_113 rfl rfl rfl rfl rfl ?_
    refine ok_no (j := 1) (by omega) (by decide) (by decide) ?_
    show am_Run am_X0 (am_meth d) 156 R 13 [some (.ref 113), some (.int t), some (.int b), some (.int p), some (.int m)] [.int (-1 : Int32)] (am_mk (am_no I 1) L, 0, 0)
    exact ar_iret rfl rfl h
theorem r_M_house_0 {d : Nat} (hd : 1 ≤ d) {R : am_R} {I : Nat → Nat → Int32} {L : Nat → Nat → Int64} {t : Int32} {b : Int32} (h : ((0 ≤ t ∧ t < 10 → (((b < 0 → (R (some (.int (-4 : Int32))) (am_mk (am_no I 4) L, 0, 0))) ∧ (¬ b < 0 → (((b ≤ 255 → ((((I 113 10) = 20 → (R (some (.int (-6 : Int32))) (am_mk (am_no I 6) L, 0, 0))) ∧ (¬ (I 113 10) = 20 → (∃ j_5 : Nat, j_5 < 20 ∧ I 113 10 = nI j_5 ∧ (∀ I_8 : Nat → Nat → Int32, I_8 = va_up I 122 (upd (I 122) j_5 t) → (∃ j_10 : Nat, j_10 < 20 ∧ I_8 113 10 = nI j_10 ∧ (∀ I_13 : Nat → Nat → Int32, I_13 = va_up I_8 123 (upd (I_8 123) j_10 b) → (∀ I_15 : Nat → Nat → Int32, I_15 = va_up I_13 113 (upd (I_13 113) 10 ((I_13 113 10) + 1)) → (R (some (.int ((I_15 113 10) - 1))) (am_mk I_15 L, 0, 0))))))))))) ∧ (¬ b ≤ 255 → (R (some (.int (-6 : Int32))) (am_mk (am_no I 6) L, 0, 0))))))))) ∧ (¬ (0 ≤ t ∧ t < 10) → (R (some (.int (-1 : Int32))) (am_mk (am_no I 1) L, 0, 0))))) : am_Run am_X0 (am_meth d) 157 R 0 [some (.ref 113), some (.int t), some (.int b)] [] (am_mk I L, 0, 0) := by
  refine ar_aload_n (j := 0) (q := 1) rfl rfl rfl rfl ?_
  refine ar_iload_n (j := 1) (q := 2) rfl rfl rfl rfl ?_
  refine ar_invv (as := [.int t]) (rest := []) (b2 := (0, 0)) (b3 := (0, 0)) (q := 5) rfl rfl rfl rfl mk_113 rfl rfl rfl rfl rfl ?_
  obtain ⟨hA, hB⟩ := h
  refine ok_M_isTown (by omega)  (fun c_1 => ?_) (fun c_1 => ?_)
  · have h := hA c_1
    clear hA hB
    show am_Run am_X0 (am_meth d) 157 R 5 [some (.ref 113), some (.int t), some (.int b)] [.int 1] (am_mk I L, 0, 0)
    refine ar_b0 am_c_ne (t := 14) (q := 8) rfl rfl rfl (fun _ => ?_) (fun c9 => absurd (by decide) c9)
    refine ar_iload_n (j := 2) (q := 15) rfl rfl rfl rfl ?_
    obtain ⟨hA, hB⟩ := h
    refine ar_b0 am_d_ge (t := 25) (q := 18) rfl rfl rfl (fun c_2 => ?_) (fun c_2 => ?_)
    · have h := hB c_2
      clear hA hB
      refine ar_iload_n (j := 2) (q := 26) rfl rfl rfl rfl ?_
      refine ar_sipush (v := 255) (q := 29) rfl rfl rfl ?_
      obtain ⟨hA, hB⟩ := h
      refine ar_br am_d_gt (t := 41) (q := 32) rfl rfl rfl (fun c_3 => ?_) (fun c_3 => ?_)
      · have h := hB c_3
        clear hA hB
        refine ar_aload_n (j := 0) (q := 42) rfl rfl rfl rfl ?_
        refine ar_bipush (v := (-6 : Int32)) (q := 44) rfl rfl rfl ?_
        refine ar_invv (as := [.int (-6 : Int32)]) (rest := []) (b2 := (0, 0)) (b3 := (0, 0)) (q := 47) rfl rfl rfl rfl mk_113 rfl rfl rfl rfl rfl ?_
        refine ok_no (j := 6) (by omega) (by decide) (by decide) ?_
        show am_Run am_X0 (am_meth d) 157 R 47 [some (.ref 113), some (.int t), some (.int b)] [.int (-6 : Int32)] (am_mk (am_no I 6) L, 0, 0)
        exact ar_iret rfl rfl h
      · have c_3 := Classical.not_not.mp c_3
        have h := hA c_3
        clear hA hB
        refine ar_aload_n (j := 0) (q := 33) rfl rfl rfl rfl ?_
        refine ar_getf (v := .int (I 113 10)) (q := 36) rfl rfl mk_113 rfl rfl ?_
        refine ar_bipush (v := 20) (q := 38) rfl rfl rfl ?_
        obtain ⟨hA, hB⟩ := h
        refine ar_br am_c_ne (t := 48) (q := 41) rfl rfl rfl (fun c_4 => ?_) (fun c_4 => ?_)
        · have h := hB c_4
          clear hA hB
          refine ar_aload_n (j := 0) (q := 49) rfl rfl rfl rfl ?_
          refine ar_getf (v := .ref 122) (q := 52) rfl rfl mk_113 rfl rfl ?_
          refine ar_aload_n (j := 0) (q := 53) rfl rfl rfl rfl ?_
          refine ar_getf (v := .int (I 113 10)) (q := 56) rfl rfl mk_113 rfl rfl ?_
          refine ar_iload_n (j := 1) (q := 57) rfl rfl rfl rfl ?_
          obtain ⟨j_5, hx_6, hi_7, h⟩ := h
          obtain ⟨I_8, hI_9⟩ : ∃ z : Nat → Nat → Int32, z = va_up I 122 (upd (I 122) j_5 t) := ⟨_, rfl⟩
          have h := h I_8 hI_9
          refine ar_iast (hp2 := am_mk I_8 L) (q := 58) rfl mk_122 (am_inE hi_7 hx_6 (by decide)) (by rw [am_clT hi_7 hx_6 (by decide), hI_9]; exact mk_s122) rfl ?_
          refine ar_aload_n (j := 0) (q := 59) rfl rfl rfl rfl ?_
          refine ar_getf (v := .ref 123) (q := 62) rfl rfl mk_113 rfl rfl ?_
          refine ar_aload_n (j := 0) (q := 63) rfl rfl rfl rfl ?_
          refine ar_getf (v := .int (I_8 113 10)) (q := 66) rfl rfl mk_113 rfl rfl ?_
          refine ar_iload_n (j := 2) (q := 67) rfl rfl rfl rfl ?_
          obtain ⟨j_10, hx_11, hi_12, h⟩ := h
          obtain ⟨I_13, hI_14⟩ : ∃ z : Nat → Nat → Int32, z = va_up I_8 123 (upd (I_8 123) j_10 b) := ⟨_, rfl⟩
          have h := h I_13 hI_14
          refine ar_iast (hp2 := am_mk I_13 L) (q := 68) rfl mk_123 (am_inE hi_12 hx_11 (by decide)) (by rw [am_clT hi_12 hx_11 (by decide), hI_14]; exact mk_s123) rfl ?_
          refine ar_aload_n (j := 0) (q := 69) rfl rfl rfl rfl ?_
          refine ar_st (i := .dup) (n := 1) (st' := [.ref 113, .ref 113]) (q := 70) rfl rfl rfl rfl ?_
          refine ar_getf (v := .int (I_13 113 10)) (q := 73) rfl rfl mk_113 rfl rfl ?_
          refine ar_iconst (v := 1) (q := 74) rfl rfl rfl ?_
          refine ar_ib (i := .iadd) (z := (I_13 113 10) + 1) (q := 75) rfl rfl rfl rfl rfl ?_
          obtain ⟨I_15, hI_16⟩ : ∃ z : Nat → Nat → Int32, z = va_up I_13 113 (upd (I_13 113) 10 ((I_13 113 10) + 1)) := ⟨_, rfl⟩
          have h := h I_15 hI_16
          refine ar_putf (hp2 := am_mk I_15 L) (q := 78) rfl rfl mk_113 rfl (by rw [hI_16]; exact mk_p113_10) rfl ?_
          refine ar_aload_n (j := 0) (q := 79) rfl rfl rfl rfl ?_
          refine ar_getf (v := .int (I_15 113 10)) (q := 82) rfl rfl mk_113 rfl rfl ?_
          refine ar_iconst (v := 1) (q := 83) rfl rfl rfl ?_
          refine ar_ib (i := .isub) (z := (I_15 113 10) - 1) (q := 84) rfl rfl rfl rfl rfl ?_
          exact ar_iret rfl rfl h
        · have c_4 := Classical.not_not.mp c_4
          have h := hA c_4
          clear hA hB
          refine ar_aload_n (j := 0) (q := 42) rfl rfl rfl rfl ?_
          refine ar_bipush (v := (-6 : Int32)) (q := 44) rfl rfl rfl ?_
          refine ar_invv (as := [.int (-6 : Int32)]) (rest := []) (b2 := (0, 0)) (b3 := (0, 0)) (q := 47) rfl rfl rfl rfl mk_113 rfl rfl rfl rfl rfl ?_
          refine ok_no (j := 6) (by omega) (by decide) (by decide) ?_
          show am_Run am_X0 (am_meth d) 157 R 47 [some (.ref 113), some (.int t), some (.int b)] [.int (-6 : Int32)] (am_mk (am_no I 6) L, 0, 0)
          exact ar_iret rfl rfl h
    · have c_2 := Classical.not_not.mp c_2
      have h := hA c_2
      clear hA hB
      refine ar_aload_n (j := 0) (q := 19) rfl rfl rfl rfl ?_
      refine ar_bipush (v := (-4 : Int32)) (q := 21) rfl rfl rfl ?_
      refine ar_invv (as := [.int (-4 : Int32)]) (rest := []) (b2 := (0, 0)) (b3 := (0, 0)) (q := 24) rfl rfl rfl rfl mk_113 rfl rfl rfl rfl rfl ?_
      refine ok_no (j := 4) (by omega) (by decide) (by decide) ?_
      show am_Run am_X0 (am_meth d) 157 R 24 [some (.ref 113), some (.int t), some (.int b)] [.int (-4 : Int32)] (am_mk (am_no I 4) L, 0, 0)
      exact ar_iret rfl rfl h
  · have h := hB c_1
    clear hA hB
    show am_Run am_X0 (am_meth d) 157 R 5 [some (.ref 113), some (.int t), some (.int b)] [.int 0] (am_mk I L, 0, 0)
    refine ar_b0 am_c_ne (t := 14) (q := 8) rfl rfl rfl (fun c9 => absurd (by decide) c9) (fun _ => ?_)
    refine ar_aload_n (j := 0) (q := 9) rfl rfl rfl rfl ?_
    refine ar_iconst (v := (-1 : Int32)) (q := 10) rfl rfl rfl ?_
    refine ar_invv (as := [.int (-1 : Int32)]) (rest := []) (b2 := (0, 0)) (b3 := (0, 0)) (q := 13) rfl rfl rfl rfl mk_113 rfl rfl rfl rfl rfl ?_
    refine ok_no (j := 1) (by omega) (by decide) (by decide) ?_
    show am_Run am_X0 (am_meth d) 157 R 13 [some (.ref 113), some (.int t), some (.int b)] [.int (-1 : Int32)] (am_mk (am_no I 1) L, 0, 0)
    exact ar_iret rfl rfl h
theorem r_M_stayOf_0 {d : Nat} (hd : 1 ≤ d) {R : am_R} {I : Nat → Nat → Int32} {L : Nat → Nat → Int64} {s : Int32} {w : Int32} (h : ((0 ≤ s ∧ s < I 113 14 → (((w < 0 → (R (some (.int (-2 : Int32))) (am_mk (am_no I 2) L, 0, 0))) ∧ (¬ w < 0 → (((w ≤ 5 → (((w = 0 → (∃ j_5 : Nat, j_5 < 60 ∧ s = nI j_5 ∧ (R (some (.int (I 125 j_5))) (am_mk I L, 0, 0)))) ∧ (¬ w = 0 → (((w = 1 → (∃ j_9 : Nat, j_9 < 60 ∧ s = nI j_9 ∧ (R (some (.int (I 126 j_9))) (am_mk I L, 0, 0)))) ∧ (¬ w = 1 → (((w = 2 → (∃ j_13 : Nat, j_13 < 60 ∧ s = nI j_13 ∧ (R (some (.int (I 127 j_13))) (am_mk I L, 0, 0)))) ∧ (¬ w = 2 → (((w = 3 → (∃ j_17 : Nat, j_17 < 60 ∧ s = nI j_17 ∧ (R (some (.int (I 128 j_17))) (am_mk I L, 0, 0)))) ∧ (¬ w = 3 → (((w = 4 → (∃ j_21 : Nat, j_21 < 60 ∧ s = nI j_21 ∧ (R (some (.int (I 129 j_21))) (am_mk I L, 0, 0)))) ∧ (¬ w = 4 → (∃ j_24 : Nat, s = nI j_24 ∧ ((j_24 < 60) ∧ (((I 127 j_24 < I 113 0 → (R (some (.int 1)) (am_mk I L, 0, 0))) ∧ (¬ (I 127 j_24 < I 113 0) → (R (some (.int 0)) (am_mk I L, 0, 0))))))))))))))))))))))) ∧ (¬ w ≤ 5 → (R (some (.int (-2 : Int32))) (am_mk (am_no I 2) L, 0, 0))))))))) ∧ (¬ (0 ≤ s ∧ s < I 113 14) → (R (some (.int (-1 : Int32))) (am_mk (am_no I 1) L, 0, 0))))) : am_Run am_X0 (am_meth d) 160 R 0 [some (.ref 113), some (.int s), some (.int w)] [] (am_mk I L, 0, 0) := by
  refine ar_aload_n (j := 0) (q := 1) rfl rfl rfl rfl ?_
  refine ar_iload_n (j := 1) (q := 2) rfl rfl rfl rfl ?_
  refine ar_invv (as := [.int s]) (rest := []) (b2 := (0, 0)) (b3 := (0, 0)) (q := 5) rfl rfl rfl rfl mk_113 rfl rfl rfl rfl rfl ?_
  obtain ⟨hA, hB⟩ := h
  refine ok_M_isStay (by omega)  (fun c_1 => ?_) (fun c_1 => ?_)
  · have h := hA c_1
    clear hA hB
    show am_Run am_X0 (am_meth d) 160 R 5 [some (.ref 113), some (.int s), some (.int w)] [.int 1] (am_mk I L, 0, 0)
    refine ar_b0 am_c_ne (t := 14) (q := 8) rfl rfl rfl (fun _ => ?_) (fun c9 => absurd (by decide) c9)
    refine ar_iload_n (j := 2) (q := 15) rfl rfl rfl rfl ?_
    obtain ⟨hA, hB⟩ := h
    refine ar_b0 am_c_lt (t := 23) (q := 18) rfl rfl rfl (fun c_2 => ?_) (fun c_2 => ?_)
    · have h := hA c_2
      clear hA hB
      refine ar_aload_n (j := 0) (q := 24) rfl rfl rfl rfl ?_
      refine ar_bipush (v := (-2 : Int32)) (q := 26) rfl rfl rfl ?_
      refine ar_invv (as := [.int (-2 : Int32)]) (rest := []) (b2 := (0, 0)) (b3 := (0, 0)) (q := 29) rfl rfl rfl rfl mk_113 rfl rfl rfl rfl rfl ?_
      refine ok_no (j := 2) (by omega) (by decide) (by decide) ?_
      show am_Run am_X0 (am_meth d) 160 R 29 [some (.ref 113), some (.int s), some (.int w)] [.int (-2 : Int32)] (am_mk (am_no I 2) L, 0, 0)
      exact ar_iret rfl rfl h
    · have h := hB c_2
      clear hA hB
      refine ar_iload_n (j := 2) (q := 19) rfl rfl rfl rfl ?_
      refine ar_iconst (v := 5) (q := 20) rfl rfl rfl ?_
      obtain ⟨hA, hB⟩ := h
      refine ar_br am_c_le (t := 30) (q := 23) rfl rfl rfl (fun c_3 => ?_) (fun c_3 => ?_)
      · have h := hA c_3
        clear hA hB
        refine ar_iload_n (j := 2) (q := 31) rfl rfl rfl rfl ?_
        obtain ⟨hA, hB⟩ := h
        refine ar_b0 am_c_ne (t := 41) (q := 34) rfl rfl rfl (fun c_4 => ?_) (fun c_4 => ?_)
        · have h := hB c_4
          clear hA hB
          refine ar_iload_n (j := 2) (q := 42) rfl rfl rfl rfl ?_
          refine ar_iconst (v := 1) (q := 43) rfl rfl rfl ?_
          obtain ⟨hA, hB⟩ := h
          refine ar_br am_c_ne (t := 53) (q := 46) rfl rfl rfl (fun c_8 => ?_) (fun c_8 => ?_)
          · have h := hB c_8
            clear hA hB
            refine ar_iload_n (j := 2) (q := 54) rfl rfl rfl rfl ?_
            refine ar_iconst (v := 2) (q := 55) rfl rfl rfl ?_
            obtain ⟨hA, hB⟩ := h
            refine ar_br am_c_ne (t := 65) (q := 58) rfl rfl rfl (fun c_12 => ?_) (fun c_12 => ?_)
            · have h := hB c_12
              clear hA hB
              refine ar_iload_n (j := 2) (q := 66) rfl rfl rfl rfl ?_
              refine ar_iconst (v := 3) (q := 67) rfl rfl rfl ?_
              obtain ⟨hA, hB⟩ := h
              refine ar_br am_c_ne (t := 77) (q := 70) rfl rfl rfl (fun c_16 => ?_) (fun c_16 => ?_)
              · have h := hB c_16
                clear hA hB
                refine ar_iload_n (j := 2) (q := 78) rfl rfl rfl rfl ?_
                refine ar_iconst (v := 4) (q := 79) rfl rfl rfl ?_
                obtain ⟨hA, hB⟩ := h
                refine ar_br am_c_ne (t := 89) (q := 82) rfl rfl rfl (fun c_20 => ?_) (fun c_20 => ?_)
                · have h := hB c_20
                  clear hA hB
                  refine ar_aload_n (j := 0) (q := 90) rfl rfl rfl rfl ?_
                  refine ar_iload_n (j := 1) (q := 91) rfl rfl rfl rfl ?_
                  refine ar_invv (as := [.int s]) (rest := []) (b2 := (0, 0)) (b3 := (0, 0)) (q := 94) rfl rfl rfl rfl mk_113 rfl rfl rfl rfl rfl ?_
                  obtain ⟨j_24, hi_25, h⟩ := h
                  obtain ⟨hp_27, h⟩ := h
                  obtain ⟨hA, hB⟩ := h
                  refine ok_M_isOver (by omega) hi_25 hp_27 (fun c_26 => ?_) (fun c_26 => ?_)
                  · have h := hA c_26
                    clear hA hB
                    show am_Run am_X0 (am_meth d) 160 R 94 [some (.ref 113), some (.int s), some (.int w)] [.int 1] (am_mk I L, 0, 0)
                    refine ar_b0 am_c_eq (t := 101) (q := 97) rfl rfl rfl (fun c9 => absurd c9 (by decide)) (fun _ => ?_)
                    refine ar_iconst (v := 1) (q := 98) rfl rfl rfl ?_
                    refine ar_goto (t := 102) rfl rfl ?_
                    exact ar_iret rfl rfl h
                  · have h := hB c_26
                    clear hA hB
                    show am_Run am_X0 (am_meth d) 160 R 94 [some (.ref 113), some (.int s), some (.int w)] [.int 0] (am_mk I L, 0, 0)
                    refine ar_b0 am_c_eq (t := 101) (q := 97) rfl rfl rfl (fun _ => ?_) (fun c9 => absurd (by decide) c9)
                    refine ar_iconst (v := 0) (q := 102) rfl rfl rfl ?_
                    exact ar_iret rfl rfl h
                · have c_20 := Classical.not_not.mp c_20
                  have h := hA c_20
                  clear hA hB
                  refine ar_aload_n (j := 0) (q := 83) rfl rfl rfl rfl ?_
                  refine ar_getf (v := .ref 129) (q := 86) rfl rfl mk_113 rfl rfl ?_
                  refine ar_iload_n (j := 1) (q := 87) rfl rfl rfl rfl ?_
                  obtain ⟨j_21, hx_22, hi_23, h⟩ := h
                  refine ar_iald (v := I 129 j_21) (q := 88) rfl mk_129 (am_inE hi_23 hx_22 (by decide)) (am_clE hi_23 hx_22 (by decide)) rfl ?_
                  exact ar_iret rfl rfl h
              · have c_16 := Classical.not_not.mp c_16
                have h := hA c_16
                clear hA hB
                refine ar_aload_n (j := 0) (q := 71) rfl rfl rfl rfl ?_
                refine ar_getf (v := .ref 128) (q := 74) rfl rfl mk_113 rfl rfl ?_
                refine ar_iload_n (j := 1) (q := 75) rfl rfl rfl rfl ?_
                obtain ⟨j_17, hx_18, hi_19, h⟩ := h
                refine ar_iald (v := I 128 j_17) (q := 76) rfl mk_128 (am_inE hi_19 hx_18 (by decide)) (am_clE hi_19 hx_18 (by decide)) rfl ?_
                exact ar_iret rfl rfl h
            · have c_12 := Classical.not_not.mp c_12
              have h := hA c_12
              clear hA hB
              refine ar_aload_n (j := 0) (q := 59) rfl rfl rfl rfl ?_
              refine ar_getf (v := .ref 127) (q := 62) rfl rfl mk_113 rfl rfl ?_
              refine ar_iload_n (j := 1) (q := 63) rfl rfl rfl rfl ?_
              obtain ⟨j_13, hx_14, hi_15, h⟩ := h
              refine ar_iald (v := I 127 j_13) (q := 64) rfl mk_127 (am_inE hi_15 hx_14 (by decide)) (am_clE hi_15 hx_14 (by decide)) rfl ?_
              exact ar_iret rfl rfl h
          · have c_8 := Classical.not_not.mp c_8
            have h := hA c_8
            clear hA hB
            refine ar_aload_n (j := 0) (q := 47) rfl rfl rfl rfl ?_
            refine ar_getf (v := .ref 126) (q := 50) rfl rfl mk_113 rfl rfl ?_
            refine ar_iload_n (j := 1) (q := 51) rfl rfl rfl rfl ?_
            obtain ⟨j_9, hx_10, hi_11, h⟩ := h
            refine ar_iald (v := I 126 j_9) (q := 52) rfl mk_126 (am_inE hi_11 hx_10 (by decide)) (am_clE hi_11 hx_10 (by decide)) rfl ?_
            exact ar_iret rfl rfl h
        · have c_4 := Classical.not_not.mp c_4
          have h := hA c_4
          clear hA hB
          refine ar_aload_n (j := 0) (q := 35) rfl rfl rfl rfl ?_
          refine ar_getf (v := .ref 125) (q := 38) rfl rfl mk_113 rfl rfl ?_
          refine ar_iload_n (j := 1) (q := 39) rfl rfl rfl rfl ?_
          obtain ⟨j_5, hx_6, hi_7, h⟩ := h
          refine ar_iald (v := I 125 j_5) (q := 40) rfl mk_125 (am_inE hi_7 hx_6 (by decide)) (am_clE hi_7 hx_6 (by decide)) rfl ?_
          exact ar_iret rfl rfl h
      · have h := hB c_3
        clear hA hB
        refine ar_aload_n (j := 0) (q := 24) rfl rfl rfl rfl ?_
        refine ar_bipush (v := (-2 : Int32)) (q := 26) rfl rfl rfl ?_
        refine ar_invv (as := [.int (-2 : Int32)]) (rest := []) (b2 := (0, 0)) (b3 := (0, 0)) (q := 29) rfl rfl rfl rfl mk_113 rfl rfl rfl rfl rfl ?_
        refine ok_no (j := 2) (by omega) (by decide) (by decide) ?_
        show am_Run am_X0 (am_meth d) 160 R 29 [some (.ref 113), some (.int s), some (.int w)] [.int (-2 : Int32)] (am_mk (am_no I 2) L, 0, 0)
        exact ar_iret rfl rfl h
  · have h := hB c_1
    clear hA hB
    show am_Run am_X0 (am_meth d) 160 R 5 [some (.ref 113), some (.int s), some (.int w)] [.int 0] (am_mk I L, 0, 0)
    refine ar_b0 am_c_ne (t := 14) (q := 8) rfl rfl rfl (fun c9 => absurd (by decide) c9) (fun _ => ?_)
    refine ar_aload_n (j := 0) (q := 9) rfl rfl rfl rfl ?_
    refine ar_iconst (v := (-1 : Int32)) (q := 10) rfl rfl rfl ?_
    refine ar_invv (as := [.int (-1 : Int32)]) (rest := []) (b2 := (0, 0)) (b3 := (0, 0)) (q := 13) rfl rfl rfl rfl mk_113 rfl rfl rfl rfl rfl ?_
    refine ok_no (j := 1) (by omega) (by decide) (by decide) ?_
    show am_Run am_X0 (am_meth d) 160 R 13 [some (.ref 113), some (.int s), some (.int w)] [.int (-1 : Int32)] (am_mk (am_no I 1) L, 0, 0)
    exact ar_iret rfl rfl h
theorem r_M_cancel_0 {d : Nat} (hd : 1 ≤ d) {R : am_R} {I : Nat → Nat → Int32} {L : Nat → Nat → Int64} {s : Int32} (h : ((0 ≤ s ∧ s < I 113 14 → (∃ j_2 : Nat, s = nI j_2 ∧ ((j_2 < 60) ∧ (((I 127 j_2 < I 113 0 → (R (some (.int (-3 : Int32))) (am_mk (am_no I 3) L, 0, 0))) ∧ (¬ (I 127 j_2 < I 113 0) → (∃ j_6 : Nat, j_6 < 60 ∧ s = nI j_6 ∧ ((((I 128 j_6) = 2 → (R (some (.int (-3 : Int32))) (am_mk (am_no I 3) L, 0, 0))) ∧ (¬ (I 128 j_6) = 2 → (∀ I_10 : Nat → Nat → Int32, I_10 = va_up I 128 (upd (I 128) j_6 2) → (R (some (.int (I_10 129 j_6))) (am_mk I_10 L, 0, 0))))))))))))) ∧ (¬ (0 ≤ s ∧ s < I 113 14) → (R (some (.int (-1 : Int32))) (am_mk (am_no I 1) L, 0, 0))))) : am_Run am_X0 (am_meth d) 192 R 0 [some (.ref 113), some (.int s)] [] (am_mk I L, 0, 0) := by
  refine ar_aload_n (j := 0) (q := 1) rfl rfl rfl rfl ?_
  refine ar_iload_n (j := 1) (q := 2) rfl rfl rfl rfl ?_
  refine ar_invv (as := [.int s]) (rest := []) (b2 := (0, 0)) (b3 := (0, 0)) (q := 5) rfl rfl rfl rfl mk_113 rfl rfl rfl rfl rfl ?_
  obtain ⟨hA, hB⟩ := h
  refine ok_M_isStay (by omega)  (fun c_1 => ?_) (fun c_1 => ?_)
  · have h := hA c_1
    clear hA hB
    show am_Run am_X0 (am_meth d) 192 R 5 [some (.ref 113), some (.int s)] [.int 1] (am_mk I L, 0, 0)
    refine ar_b0 am_c_ne (t := 14) (q := 8) rfl rfl rfl (fun _ => ?_) (fun c9 => absurd (by decide) c9)
    refine ar_aload_n (j := 0) (q := 15) rfl rfl rfl rfl ?_
    refine ar_iload_n (j := 1) (q := 16) rfl rfl rfl rfl ?_
    refine ar_invv (as := [.int s]) (rest := []) (b2 := (0, 0)) (b3 := (0, 0)) (q := 19) rfl rfl rfl rfl mk_113 rfl rfl rfl rfl rfl ?_
    obtain ⟨j_2, hi_3, h⟩ := h
    obtain ⟨hp_5, h⟩ := h
    obtain ⟨hA, hB⟩ := h
    refine ok_M_isOver (by omega) hi_3 hp_5 (fun c_4 => ?_) (fun c_4 => ?_)
    · have h := hA c_4
      clear hA hB
      show am_Run am_X0 (am_meth d) 192 R 19 [some (.ref 113), some (.int s)] [.int 1] (am_mk I L, 0, 0)
      refine ar_b0 am_c_ne (t := 32) (q := 22) rfl rfl rfl (fun _ => ?_) (fun c9 => absurd (by decide) c9)
      refine ar_aload_n (j := 0) (q := 33) rfl rfl rfl rfl ?_
      refine ar_bipush (v := (-3 : Int32)) (q := 35) rfl rfl rfl ?_
      refine ar_invv (as := [.int (-3 : Int32)]) (rest := []) (b2 := (0, 0)) (b3 := (0, 0)) (q := 38) rfl rfl rfl rfl mk_113 rfl rfl rfl rfl rfl ?_
      refine ok_no (j := 3) (by omega) (by decide) (by decide) ?_
      show am_Run am_X0 (am_meth d) 192 R 38 [some (.ref 113), some (.int s)] [.int (-3 : Int32)] (am_mk (am_no I 3) L, 0, 0)
      exact ar_iret rfl rfl h
    · have h := hB c_4
      clear hA hB
      show am_Run am_X0 (am_meth d) 192 R 19 [some (.ref 113), some (.int s)] [.int 0] (am_mk I L, 0, 0)
      refine ar_b0 am_c_ne (t := 32) (q := 22) rfl rfl rfl (fun c9 => absurd (by decide) c9) (fun _ => ?_)
      refine ar_aload_n (j := 0) (q := 23) rfl rfl rfl rfl ?_
      refine ar_getf (v := .ref 128) (q := 26) rfl rfl mk_113 rfl rfl ?_
      refine ar_iload_n (j := 1) (q := 27) rfl rfl rfl rfl ?_
      obtain ⟨j_6, hx_7, hi_8, h⟩ := h
      refine ar_iald (v := I 128 j_6) (q := 28) rfl mk_128 (am_inE hi_8 hx_7 (by decide)) (am_clE hi_8 hx_7 (by decide)) rfl ?_
      refine ar_iconst (v := 2) (q := 29) rfl rfl rfl ?_
      obtain ⟨hA, hB⟩ := h
      refine ar_br am_c_ne (t := 39) (q := 32) rfl rfl rfl (fun c_9 => ?_) (fun c_9 => ?_)
      · have h := hB c_9
        clear hA hB
        refine ar_aload_n (j := 0) (q := 40) rfl rfl rfl rfl ?_
        refine ar_getf (v := .ref 128) (q := 43) rfl rfl mk_113 rfl rfl ?_
        refine ar_iload_n (j := 1) (q := 44) rfl rfl rfl rfl ?_
        refine ar_iconst (v := 2) (q := 45) rfl rfl rfl ?_
        obtain ⟨I_10, hI_11⟩ : ∃ z : Nat → Nat → Int32, z = va_up I 128 (upd (I 128) j_6 2) := ⟨_, rfl⟩
        have h := h I_10 hI_11
        refine ar_iast (hp2 := am_mk I_10 L) (q := 46) rfl mk_128 (am_inE hi_8 hx_7 (by decide)) (by rw [am_clT hi_8 hx_7 (by decide), hI_11]; exact mk_s128) rfl ?_
        refine ar_aload_n (j := 0) (q := 47) rfl rfl rfl rfl ?_
        refine ar_getf (v := .ref 129) (q := 50) rfl rfl mk_113 rfl rfl ?_
        refine ar_iload_n (j := 1) (q := 51) rfl rfl rfl rfl ?_
        refine ar_iald (v := I_10 129 j_6) (q := 52) rfl mk_129 (am_inE hi_8 hx_7 (by decide)) (am_clE hi_8 hx_7 (by decide)) rfl ?_
        exact ar_iret rfl rfl h
      · have c_9 := Classical.not_not.mp c_9
        have h := hA c_9
        clear hA hB
        refine ar_aload_n (j := 0) (q := 33) rfl rfl rfl rfl ?_
        refine ar_bipush (v := (-3 : Int32)) (q := 35) rfl rfl rfl ?_
        refine ar_invv (as := [.int (-3 : Int32)]) (rest := []) (b2 := (0, 0)) (b3 := (0, 0)) (q := 38) rfl rfl rfl rfl mk_113 rfl rfl rfl rfl rfl ?_
        refine ok_no (j := 3) (by omega) (by decide) (by decide) ?_
        show am_Run am_X0 (am_meth d) 192 R 38 [some (.ref 113), some (.int s)] [.int (-3 : Int32)] (am_mk (am_no I 3) L, 0, 0)
        exact ar_iret rfl rfl h
  · have h := hB c_1
    clear hA hB
    show am_Run am_X0 (am_meth d) 192 R 5 [some (.ref 113), some (.int s)] [.int 0] (am_mk I L, 0, 0)
    refine ar_b0 am_c_ne (t := 14) (q := 8) rfl rfl rfl (fun c9 => absurd (by decide) c9) (fun _ => ?_)
    refine ar_aload_n (j := 0) (q := 9) rfl rfl rfl rfl ?_
    refine ar_iconst (v := (-1 : Int32)) (q := 10) rfl rfl rfl ?_
    refine ar_invv (as := [.int (-1 : Int32)]) (rest := []) (b2 := (0, 0)) (b3 := (0, 0)) (q := 13) rfl rfl rfl rfl mk_113 rfl rfl rfl rfl rfl ?_
    refine ok_no (j := 1) (by omega) (by decide) (by decide) ?_
    show am_Run am_X0 (am_meth d) 192 R 13 [some (.ref 113), some (.int s)] [.int (-1 : Int32)] (am_mk (am_no I 1) L, 0, 0)
    exact ar_iret rfl rfl h
theorem r_M_put_0 {d : Nat} (hd : 1 ≤ d) {R : am_R} {I : Nat → Nat → Int32} {L : Nat → Nat → Int64} {v : Int32} (h : ((v < (-1 : Int32) → (R (some (.int (-4 : Int32))) (am_mk (am_no I 4) L, 0, 0))) ∧ (¬ v < (-1 : Int32) → (((v ≤ 99 → ((((I 113 39) = 12 → (R (some (.int (-6 : Int32))) (am_mk (am_no I 6) L, 0, 0))) ∧ (¬ (I 113 39) = 12 → (∃ j_4 : Nat, j_4 < 12 ∧ I 113 39 = nI j_4 ∧ (∀ I_7 : Nat → Nat → Int32, I_7 = va_up I 146 (upd (I 146) j_4 v) → (∀ I_9 : Nat → Nat → Int32, I_9 = va_up I_7 113 (upd (I_7 113) 39 ((I_7 113 39) + 1)) → (R (some (.int (I_9 113 39))) (am_mk I_9 L, 0, 0))))))))) ∧ (¬ v ≤ 99 → (R (some (.int (-6 : Int32))) (am_mk (am_no I 6) L, 0, 0)))))))) : am_Run am_X0 (am_meth d) 205 R 0 [some (.ref 113), some (.int v)] [] (am_mk I L, 0, 0) := by
  refine ar_iload_n (j := 1) (q := 1) rfl rfl rfl rfl ?_
  refine ar_iconst (v := (-1 : Int32)) (q := 2) rfl rfl rfl ?_
  obtain ⟨hA, hB⟩ := h
  refine ar_br am_d_ge (t := 12) (q := 5) rfl rfl rfl (fun c_1 => ?_) (fun c_1 => ?_)
  · have h := hB c_1
    clear hA hB
    refine ar_iload_n (j := 1) (q := 13) rfl rfl rfl rfl ?_
    refine ar_bipush (v := 99) (q := 15) rfl rfl rfl ?_
    obtain ⟨hA, hB⟩ := h
    refine ar_br am_d_gt (t := 27) (q := 18) rfl rfl rfl (fun c_2 => ?_) (fun c_2 => ?_)
    · have h := hB c_2
      clear hA hB
      refine ar_aload_n (j := 0) (q := 28) rfl rfl rfl rfl ?_
      refine ar_bipush (v := (-6 : Int32)) (q := 30) rfl rfl rfl ?_
      refine ar_invv (as := [.int (-6 : Int32)]) (rest := []) (b2 := (0, 0)) (b3 := (0, 0)) (q := 33) rfl rfl rfl rfl mk_113 rfl rfl rfl rfl rfl ?_
      refine ok_no (j := 6) (by omega) (by decide) (by decide) ?_
      show am_Run am_X0 (am_meth d) 205 R 33 [some (.ref 113), some (.int v)] [.int (-6 : Int32)] (am_mk (am_no I 6) L, 0, 0)
      exact ar_iret rfl rfl h
    · have c_2 := Classical.not_not.mp c_2
      have h := hA c_2
      clear hA hB
      refine ar_aload_n (j := 0) (q := 19) rfl rfl rfl rfl ?_
      refine ar_getf (v := .int (I 113 39)) (q := 22) rfl rfl mk_113 rfl rfl ?_
      refine ar_bipush (v := 12) (q := 24) rfl rfl rfl ?_
      obtain ⟨hA, hB⟩ := h
      refine ar_br am_c_ne (t := 34) (q := 27) rfl rfl rfl (fun c_3 => ?_) (fun c_3 => ?_)
      · have h := hB c_3
        clear hA hB
        refine ar_aload_n (j := 0) (q := 35) rfl rfl rfl rfl ?_
        refine ar_getf (v := .ref 146) (q := 38) rfl rfl mk_113 rfl rfl ?_
        refine ar_aload_n (j := 0) (q := 39) rfl rfl rfl rfl ?_
        refine ar_getf (v := .int (I 113 39)) (q := 42) rfl rfl mk_113 rfl rfl ?_
        refine ar_iload_n (j := 1) (q := 43) rfl rfl rfl rfl ?_
        obtain ⟨j_4, hx_5, hi_6, h⟩ := h
        obtain ⟨I_7, hI_8⟩ : ∃ z : Nat → Nat → Int32, z = va_up I 146 (upd (I 146) j_4 v) := ⟨_, rfl⟩
        have h := h I_7 hI_8
        refine ar_iast (hp2 := am_mk I_7 L) (q := 44) rfl mk_146 (am_inE hi_6 hx_5 (by decide)) (by rw [am_clT hi_6 hx_5 (by decide), hI_8]; exact mk_s146) rfl ?_
        refine ar_aload_n (j := 0) (q := 45) rfl rfl rfl rfl ?_
        refine ar_st (i := .dup) (n := 1) (st' := [.ref 113, .ref 113]) (q := 46) rfl rfl rfl rfl ?_
        refine ar_getf (v := .int (I_7 113 39)) (q := 49) rfl rfl mk_113 rfl rfl ?_
        refine ar_iconst (v := 1) (q := 50) rfl rfl rfl ?_
        refine ar_ib (i := .iadd) (z := (I_7 113 39) + 1) (q := 51) rfl rfl rfl rfl rfl ?_
        obtain ⟨I_9, hI_10⟩ : ∃ z : Nat → Nat → Int32, z = va_up I_7 113 (upd (I_7 113) 39 ((I_7 113 39) + 1)) := ⟨_, rfl⟩
        have h := h I_9 hI_10
        refine ar_putf (hp2 := am_mk I_9 L) (q := 54) rfl rfl mk_113 rfl (by rw [hI_10]; exact mk_p113_39) rfl ?_
        refine ar_aload_n (j := 0) (q := 55) rfl rfl rfl rfl ?_
        refine ar_getf (v := .int (I_9 113 39)) (q := 58) rfl rfl mk_113 rfl rfl ?_
        exact ar_iret rfl rfl h
      · have c_3 := Classical.not_not.mp c_3
        have h := hA c_3
        clear hA hB
        refine ar_aload_n (j := 0) (q := 28) rfl rfl rfl rfl ?_
        refine ar_bipush (v := (-6 : Int32)) (q := 30) rfl rfl rfl ?_
        refine ar_invv (as := [.int (-6 : Int32)]) (rest := []) (b2 := (0, 0)) (b3 := (0, 0)) (q := 33) rfl rfl rfl rfl mk_113 rfl rfl rfl rfl rfl ?_
        refine ok_no (j := 6) (by omega) (by decide) (by decide) ?_
        show am_Run am_X0 (am_meth d) 205 R 33 [some (.ref 113), some (.int v)] [.int (-6 : Int32)] (am_mk (am_no I 6) L, 0, 0)
        exact ar_iret rfl rfl h
  · have c_1 := Classical.not_not.mp c_1
    have h := hA c_1
    clear hA hB
    refine ar_aload_n (j := 0) (q := 6) rfl rfl rfl rfl ?_
    refine ar_bipush (v := (-4 : Int32)) (q := 8) rfl rfl rfl ?_
    refine ar_invv (as := [.int (-4 : Int32)]) (rest := []) (b2 := (0, 0)) (b3 := (0, 0)) (q := 11) rfl rfl rfl rfl mk_113 rfl rfl rfl rfl rfl ?_
    refine ok_no (j := 4) (by omega) (by decide) (by decide) ?_
    show am_Run am_X0 (am_meth d) 205 R 11 [some (.ref 113), some (.int v)] [.int (-4 : Int32)] (am_mk (am_no I 4) L, 0, 0)
    exact ar_iret rfl rfl h
theorem r_M_unput_0 {d : Nat} {R : am_R} {I : Nat → Nat → Int32} {L : Nat → Nat → Int64}  (h : ∀ I_1 : Nat → Nat → Int32, I_1 = va_up I 113 (upd (I 113) 39 0) → (R (some (.int (I 113 39))) (am_mk I_1 L, 0, 0))) : am_Run am_X0 (am_meth d) 206 R 0 [some (.ref 113), none] [] (am_mk I L, 0, 0) := by
  refine ar_aload_n (j := 0) (q := 1) rfl rfl rfl rfl ?_
  refine ar_getf (v := .int (I 113 39)) (q := 4) rfl rfl mk_113 rfl rfl ?_
  refine ar_istore_n (j := 1) (ls' := [some (.ref 113), some (.int (I 113 39))]) (q := 5) rfl rfl rfl rfl rfl ?_
  refine ar_aload_n (j := 0) (q := 6) rfl rfl rfl rfl ?_
  refine ar_iconst (v := 0) (q := 7) rfl rfl rfl ?_
  obtain ⟨I_1, hI_2⟩ : ∃ z : Nat → Nat → Int32, z = va_up I 113 (upd (I 113) 39 0) := ⟨_, rfl⟩
  have h := h I_1 hI_2
  refine ar_putf (hp2 := am_mk I_1 L) (q := 10) rfl rfl mk_113 rfl (by rw [hI_2]; exact mk_p113_39) rfl ?_
  refine ar_iload_n (j := 1) (q := 11) rfl rfl rfl rfl ?_
  exact ar_iret rfl rfl h
theorem r_M_tell_0 {d : Nat} (hd : 1 ≤ d) {R : am_R} {I : Nat → Nat → Int32} {L : Nat → Nat → Int64} {v : Int32} (h : ((v < (-1 : Int32) → (R (some (.int (-4 : Int32))) (am_mk (am_no I 4) L, 0, 0))) ∧ (¬ v < (-1 : Int32) → (((v ≤ 99 → ((((I 113 41) = 6 → (R (some (.int (-6 : Int32))) (am_mk (am_no I 6) L, 0, 0))) ∧ (¬ (I 113 41) = 6 → (∃ j_4 : Nat, j_4 < 6 ∧ I 113 41 = nI j_4 ∧ (∀ I_7 : Nat → Nat → Int32, I_7 = va_up I 147 (upd (I 147) j_4 v) → (∀ I_9 : Nat → Nat → Int32, I_9 = va_up I_7 113 (upd (I_7 113) 41 ((I_7 113 41) + 1)) → (R (some (.int (I_9 113 41))) (am_mk I_9 L, 0, 0))))))))) ∧ (¬ v ≤ 99 → (R (some (.int (-6 : Int32))) (am_mk (am_no I 6) L, 0, 0)))))))) : am_Run am_X0 (am_meth d) 224 R 0 [some (.ref 113), some (.int v)] [] (am_mk I L, 0, 0) := by
  refine ar_iload_n (j := 1) (q := 1) rfl rfl rfl rfl ?_
  refine ar_iconst (v := (-1 : Int32)) (q := 2) rfl rfl rfl ?_
  obtain ⟨hA, hB⟩ := h
  refine ar_br am_d_ge (t := 12) (q := 5) rfl rfl rfl (fun c_1 => ?_) (fun c_1 => ?_)
  · have h := hB c_1
    clear hA hB
    refine ar_iload_n (j := 1) (q := 13) rfl rfl rfl rfl ?_
    refine ar_bipush (v := 99) (q := 15) rfl rfl rfl ?_
    obtain ⟨hA, hB⟩ := h
    refine ar_br am_d_gt (t := 27) (q := 18) rfl rfl rfl (fun c_2 => ?_) (fun c_2 => ?_)
    · have h := hB c_2
      clear hA hB
      refine ar_aload_n (j := 0) (q := 28) rfl rfl rfl rfl ?_
      refine ar_bipush (v := (-6 : Int32)) (q := 30) rfl rfl rfl ?_
      refine ar_invv (as := [.int (-6 : Int32)]) (rest := []) (b2 := (0, 0)) (b3 := (0, 0)) (q := 33) rfl rfl rfl rfl mk_113 rfl rfl rfl rfl rfl ?_
      refine ok_no (j := 6) (by omega) (by decide) (by decide) ?_
      show am_Run am_X0 (am_meth d) 224 R 33 [some (.ref 113), some (.int v)] [.int (-6 : Int32)] (am_mk (am_no I 6) L, 0, 0)
      exact ar_iret rfl rfl h
    · have c_2 := Classical.not_not.mp c_2
      have h := hA c_2
      clear hA hB
      refine ar_aload_n (j := 0) (q := 19) rfl rfl rfl rfl ?_
      refine ar_getf (v := .int (I 113 41)) (q := 22) rfl rfl mk_113 rfl rfl ?_
      refine ar_bipush (v := 6) (q := 24) rfl rfl rfl ?_
      obtain ⟨hA, hB⟩ := h
      refine ar_br am_c_ne (t := 34) (q := 27) rfl rfl rfl (fun c_3 => ?_) (fun c_3 => ?_)
      · have h := hB c_3
        clear hA hB
        refine ar_aload_n (j := 0) (q := 35) rfl rfl rfl rfl ?_
        refine ar_getf (v := .ref 147) (q := 38) rfl rfl mk_113 rfl rfl ?_
        refine ar_aload_n (j := 0) (q := 39) rfl rfl rfl rfl ?_
        refine ar_getf (v := .int (I 113 41)) (q := 42) rfl rfl mk_113 rfl rfl ?_
        refine ar_iload_n (j := 1) (q := 43) rfl rfl rfl rfl ?_
        obtain ⟨j_4, hx_5, hi_6, h⟩ := h
        obtain ⟨I_7, hI_8⟩ : ∃ z : Nat → Nat → Int32, z = va_up I 147 (upd (I 147) j_4 v) := ⟨_, rfl⟩
        have h := h I_7 hI_8
        refine ar_iast (hp2 := am_mk I_7 L) (q := 44) rfl mk_147 (am_inE hi_6 hx_5 (by decide)) (by rw [am_clT hi_6 hx_5 (by decide), hI_8]; exact mk_s147) rfl ?_
        refine ar_aload_n (j := 0) (q := 45) rfl rfl rfl rfl ?_
        refine ar_st (i := .dup) (n := 1) (st' := [.ref 113, .ref 113]) (q := 46) rfl rfl rfl rfl ?_
        refine ar_getf (v := .int (I_7 113 41)) (q := 49) rfl rfl mk_113 rfl rfl ?_
        refine ar_iconst (v := 1) (q := 50) rfl rfl rfl ?_
        refine ar_ib (i := .iadd) (z := (I_7 113 41) + 1) (q := 51) rfl rfl rfl rfl rfl ?_
        obtain ⟨I_9, hI_10⟩ : ∃ z : Nat → Nat → Int32, z = va_up I_7 113 (upd (I_7 113) 41 ((I_7 113 41) + 1)) := ⟨_, rfl⟩
        have h := h I_9 hI_10
        refine ar_putf (hp2 := am_mk I_9 L) (q := 54) rfl rfl mk_113 rfl (by rw [hI_10]; exact mk_p113_41) rfl ?_
        refine ar_aload_n (j := 0) (q := 55) rfl rfl rfl rfl ?_
        refine ar_getf (v := .int (I_9 113 41)) (q := 58) rfl rfl mk_113 rfl rfl ?_
        exact ar_iret rfl rfl h
      · have c_3 := Classical.not_not.mp c_3
        have h := hA c_3
        clear hA hB
        refine ar_aload_n (j := 0) (q := 28) rfl rfl rfl rfl ?_
        refine ar_bipush (v := (-6 : Int32)) (q := 30) rfl rfl rfl ?_
        refine ar_invv (as := [.int (-6 : Int32)]) (rest := []) (b2 := (0, 0)) (b3 := (0, 0)) (q := 33) rfl rfl rfl rfl mk_113 rfl rfl rfl rfl rfl ?_
        refine ok_no (j := 6) (by omega) (by decide) (by decide) ?_
        show am_Run am_X0 (am_meth d) 224 R 33 [some (.ref 113), some (.int v)] [.int (-6 : Int32)] (am_mk (am_no I 6) L, 0, 0)
        exact ar_iret rfl rfl h
  · have c_1 := Classical.not_not.mp c_1
    have h := hA c_1
    clear hA hB
    refine ar_aload_n (j := 0) (q := 6) rfl rfl rfl rfl ?_
    refine ar_bipush (v := (-4 : Int32)) (q := 8) rfl rfl rfl ?_
    refine ar_invv (as := [.int (-4 : Int32)]) (rest := []) (b2 := (0, 0)) (b3 := (0, 0)) (q := 11) rfl rfl rfl rfl mk_113 rfl rfl rfl rfl rfl ?_
    refine ok_no (j := 4) (by omega) (by decide) (by decide) ?_
    show am_Run am_X0 (am_meth d) 224 R 11 [some (.ref 113), some (.int v)] [.int (-4 : Int32)] (am_mk (am_no I 4) L, 0, 0)
    exact ar_iret rfl rfl h
theorem r_M_wish_0 {d : Nat} (hd : 1 ≤ d) {R : am_R} {I : Nat → Nat → Int32} {L : Nat → Nat → Int64} {k : Int32} {l : Int32} {v : Int32} (h : ((0 ≤ k ∧ k < I 113 4 → (((l < 0 → (R (some (.int (-1 : Int32))) (am_mk (am_no I 1) L, 0, 0))) ∧ (¬ l < 0 → (((l ≤ 4 → (((v < 0 → (R (some (.int (-4 : Int32))) (am_mk (am_no I 4) L, 0, 0))) ∧ (¬ v < 0 → (((v ≤ 99 → (∃ j_6 : Nat, j_6 < 100 ∧ (k * 5) + l = nI j_6 ∧ (∀ I_9 : Nat → Nat → Int32, I_9 = va_up I 121 (upd (I 121) j_6 v) → (R (some (.int (I 121 j_6))) (am_mk I_9 L, 0, 0))))) ∧ (¬ v ≤ 99 → (R (some (.int (-6 : Int32))) (am_mk (am_no I 6) L, 0, 0))))))))) ∧ (¬ l ≤ 4 → (R (some (.int (-1 : Int32))) (am_mk (am_no I 1) L, 0, 0))))))))) ∧ (¬ (0 ≤ k ∧ k < I 113 4) → (R (some (.int (-1 : Int32))) (am_mk (am_no I 1) L, 0, 0))))) : am_Run am_X0 (am_meth d) 213 R 0 [some (.ref 113), some (.int k), some (.int l), some (.int v), none] [] (am_mk I L, 0, 0) := by
  refine ar_aload_n (j := 0) (q := 1) rfl rfl rfl rfl ?_
  refine ar_iload_n (j := 1) (q := 2) rfl rfl rfl rfl ?_
  refine ar_invv (as := [.int k]) (rest := []) (b2 := (0, 0)) (b3 := (0, 0)) (q := 5) rfl rfl rfl rfl mk_113 rfl rfl rfl rfl rfl ?_
  obtain ⟨hA, hB⟩ := h
  refine ok_M_isKeeper (by omega)  (fun c_1 => ?_) (fun c_1 => ?_)
  · have h := hA c_1
    clear hA hB
    show am_Run am_X0 (am_meth d) 213 R 5 [some (.ref 113), some (.int k), some (.int l), some (.int v), none] [.int 1] (am_mk I L, 0, 0)
    refine ar_b0 am_c_eq (t := 17) (q := 8) rfl rfl rfl (fun c9 => absurd c9 (by decide)) (fun _ => ?_)
    refine ar_iload_n (j := 2) (q := 9) rfl rfl rfl rfl ?_
    obtain ⟨hA, hB⟩ := h
    refine ar_b0 am_c_lt (t := 17) (q := 12) rfl rfl rfl (fun c_2 => ?_) (fun c_2 => ?_)
    · have h := hA c_2
      clear hA hB
      refine ar_aload_n (j := 0) (q := 18) rfl rfl rfl rfl ?_
      refine ar_iconst (v := (-1 : Int32)) (q := 19) rfl rfl rfl ?_
      refine ar_invv (as := [.int (-1 : Int32)]) (rest := []) (b2 := (0, 0)) (b3 := (0, 0)) (q := 22) rfl rfl rfl rfl mk_113 rfl rfl rfl rfl rfl ?_
      refine ok_no (j := 1) (by omega) (by decide) (by decide) ?_
      show am_Run am_X0 (am_meth d) 213 R 22 [some (.ref 113), some (.int k), some (.int l), some (.int v), none] [.int (-1 : Int32)] (am_mk (am_no I 1) L, 0, 0)
      exact ar_iret rfl rfl h
    · have h := hB c_2
      clear hA hB
      refine ar_iload_n (j := 2) (q := 13) rfl rfl rfl rfl ?_
      refine ar_iconst (v := 4) (q := 14) rfl rfl rfl ?_
      obtain ⟨hA, hB⟩ := h
      refine ar_br am_c_le (t := 23) (q := 17) rfl rfl rfl (fun c_3 => ?_) (fun c_3 => ?_)
      · have h := hA c_3
        clear hA hB
        refine ar_iload_n (j := 3) (q := 24) rfl rfl rfl rfl ?_
        obtain ⟨hA, hB⟩ := h
        refine ar_b0 am_d_ge (t := 34) (q := 27) rfl rfl rfl (fun c_4 => ?_) (fun c_4 => ?_)
        · have h := hB c_4
          clear hA hB
          refine ar_iload_n (j := 3) (q := 35) rfl rfl rfl rfl ?_
          refine ar_bipush (v := 99) (q := 37) rfl rfl rfl ?_
          obtain ⟨hA, hB⟩ := h
          refine ar_br am_c_le (t := 47) (q := 40) rfl rfl rfl (fun c_5 => ?_) (fun c_5 => ?_)
          · have h := hA c_5
            clear hA hB
            refine ar_aload_n (j := 0) (q := 48) rfl rfl rfl rfl ?_
            refine ar_getf (v := .ref 121) (q := 51) rfl rfl mk_113 rfl rfl ?_
            refine ar_iload_n (j := 1) (q := 52) rfl rfl rfl rfl ?_
            refine ar_iconst (v := 5) (q := 53) rfl rfl rfl ?_
            refine ar_ib (i := .imul) (z := k * 5) (q := 54) rfl rfl rfl rfl rfl ?_
            refine ar_iload_n (j := 2) (q := 55) rfl rfl rfl rfl ?_
            refine ar_ib (i := .iadd) (z := (k * 5) + l) (q := 56) rfl rfl rfl rfl rfl ?_
            obtain ⟨j_6, hx_7, hi_8, h⟩ := h
            refine ar_iald (v := I 121 j_6) (q := 57) rfl mk_121 (am_inE hi_8 hx_7 (by decide)) (am_clE hi_8 hx_7 (by decide)) rfl ?_
            refine ar_istore (ls' := [some (.ref 113), some (.int k), some (.int l), some (.int v), some (.int (I 121 j_6))]) (q := 59) rfl rfl rfl rfl ?_
            refine ar_aload_n (j := 0) (q := 60) rfl rfl rfl rfl ?_
            refine ar_getf (v := .ref 121) (q := 63) rfl rfl mk_113 rfl rfl ?_
            refine ar_iload_n (j := 1) (q := 64) rfl rfl rfl rfl ?_
            refine ar_iconst (v := 5) (q := 65) rfl rfl rfl ?_
            refine ar_ib (i := .imul) (z := k * 5) (q := 66) rfl rfl rfl rfl rfl ?_
            refine ar_iload_n (j := 2) (q := 67) rfl rfl rfl rfl ?_
            refine ar_ib (i := .iadd) (z := (k * 5) + l) (q := 68) rfl rfl rfl rfl rfl ?_
            refine ar_iload_n (j := 3) (q := 69) rfl rfl rfl rfl ?_
            obtain ⟨I_9, hI_10⟩ : ∃ z : Nat → Nat → Int32, z = va_up I 121 (upd (I 121) j_6 v) := ⟨_, rfl⟩
            have h := h I_9 hI_10
            refine ar_iast (hp2 := am_mk I_9 L) (q := 70) rfl mk_121 (am_inE hi_8 hx_7 (by decide)) (by rw [am_clT hi_8 hx_7 (by decide), hI_10]; exact mk_s121) rfl ?_
            refine ar_iload (q := 72) rfl rfl rfl ?_
            exact ar_iret rfl rfl h
          · have h := hB c_5
            clear hA hB
            refine ar_aload_n (j := 0) (q := 41) rfl rfl rfl rfl ?_
            refine ar_bipush (v := (-6 : Int32)) (q := 43) rfl rfl rfl ?_
            refine ar_invv (as := [.int (-6 : Int32)]) (rest := []) (b2 := (0, 0)) (b3 := (0, 0)) (q := 46) rfl rfl rfl rfl mk_113 rfl rfl rfl rfl rfl ?_
            refine ok_no (j := 6) (by omega) (by decide) (by decide) ?_
            show am_Run am_X0 (am_meth d) 213 R 46 [some (.ref 113), some (.int k), some (.int l), some (.int v), none] [.int (-6 : Int32)] (am_mk (am_no I 6) L, 0, 0)
            exact ar_iret rfl rfl h
        · have c_4 := Classical.not_not.mp c_4
          have h := hA c_4
          clear hA hB
          refine ar_aload_n (j := 0) (q := 28) rfl rfl rfl rfl ?_
          refine ar_bipush (v := (-4 : Int32)) (q := 30) rfl rfl rfl ?_
          refine ar_invv (as := [.int (-4 : Int32)]) (rest := []) (b2 := (0, 0)) (b3 := (0, 0)) (q := 33) rfl rfl rfl rfl mk_113 rfl rfl rfl rfl rfl ?_
          refine ok_no (j := 4) (by omega) (by decide) (by decide) ?_
          show am_Run am_X0 (am_meth d) 213 R 33 [some (.ref 113), some (.int k), some (.int l), some (.int v), none] [.int (-4 : Int32)] (am_mk (am_no I 4) L, 0, 0)
          exact ar_iret rfl rfl h
      · have h := hB c_3
        clear hA hB
        refine ar_aload_n (j := 0) (q := 18) rfl rfl rfl rfl ?_
        refine ar_iconst (v := (-1 : Int32)) (q := 19) rfl rfl rfl ?_
        refine ar_invv (as := [.int (-1 : Int32)]) (rest := []) (b2 := (0, 0)) (b3 := (0, 0)) (q := 22) rfl rfl rfl rfl mk_113 rfl rfl rfl rfl rfl ?_
        refine ok_no (j := 1) (by omega) (by decide) (by decide) ?_
        show am_Run am_X0 (am_meth d) 213 R 22 [some (.ref 113), some (.int k), some (.int l), some (.int v), none] [.int (-1 : Int32)] (am_mk (am_no I 1) L, 0, 0)
        exact ar_iret rfl rfl h
  · have h := hB c_1
    clear hA hB
    show am_Run am_X0 (am_meth d) 213 R 5 [some (.ref 113), some (.int k), some (.int l), some (.int v), none] [.int 0] (am_mk I L, 0, 0)
    refine ar_b0 am_c_eq (t := 17) (q := 8) rfl rfl rfl (fun _ => ?_) (fun c9 => absurd (by decide) c9)
    refine ar_aload_n (j := 0) (q := 18) rfl rfl rfl rfl ?_
    refine ar_iconst (v := (-1 : Int32)) (q := 19) rfl rfl rfl ?_
    refine ar_invv (as := [.int (-1 : Int32)]) (rest := []) (b2 := (0, 0)) (b3 := (0, 0)) (q := 22) rfl rfl rfl rfl mk_113 rfl rfl rfl rfl rfl ?_
    refine ok_no (j := 1) (by omega) (by decide) (by decide) ?_
    show am_Run am_X0 (am_meth d) 213 R 22 [some (.ref 113), some (.int k), some (.int l), some (.int v), none] [.int (-1 : Int32)] (am_mk (am_no I 1) L, 0, 0)
    exact ar_iret rfl rfl h
theorem r_M_look_0 {d : Nat} (hd : 1 ≤ d) {R : am_R} {I : Nat → Nat → Int32} {L : Nat → Nat → Int64} {a : Int32} {b : Int32} {v : Int32} (h : ((0 ≤ a ∧ a < I 113 10 → (((b < 0 → (R (some (.int (-4 : Int32))) (am_mk (am_no I 4) L, 0, 0))) ∧ (¬ b < 0 → (((v < 0 → (R (some (.int (-4 : Int32))) (am_mk (am_no I 4) L, 0, 0))) ∧ (¬ v < 0 → (((b ≤ 30 → (((v ≤ 9 → (∃ j_6 : Nat, j_6 < 620 ∧ (a * 31) + b = nI j_6 ∧ (∀ I_9 : Nat → Nat → Int32, I_9 = va_up I 124 (upd (I 124) j_6 v) → (R (some (.int (I 124 j_6))) (am_mk I_9 L, 0, 0))))) ∧ (¬ v ≤ 9 → (R (some (.int (-6 : Int32))) (am_mk (am_no I 6) L, 0, 0)))))) ∧ (¬ b ≤ 30 → (R (some (.int (-6 : Int32))) (am_mk (am_no I 6) L, 0, 0)))))))))))) ∧ (¬ (0 ≤ a ∧ a < I 113 10) → (R (some (.int (-1 : Int32))) (am_mk (am_no I 1) L, 0, 0))))) : am_Run am_X0 (am_meth d) 235 R 0 [some (.ref 113), some (.int a), some (.int b), some (.int v), none] [] (am_mk I L, 0, 0) := by
  refine ar_aload_n (j := 0) (q := 1) rfl rfl rfl rfl ?_
  refine ar_iload_n (j := 1) (q := 2) rfl rfl rfl rfl ?_
  refine ar_invv (as := [.int a]) (rest := []) (b2 := (0, 0)) (b3 := (0, 0)) (q := 5) rfl rfl rfl rfl mk_113 rfl rfl rfl rfl rfl ?_
  obtain ⟨hA, hB⟩ := h
  refine ok_M_isHouse (by omega)  (fun c_1 => ?_) (fun c_1 => ?_)
  · have h := hA c_1
    clear hA hB
    show am_Run am_X0 (am_meth d) 235 R 5 [some (.ref 113), some (.int a), some (.int b), some (.int v), none] [.int 1] (am_mk I L, 0, 0)
    refine ar_b0 am_c_ne (t := 14) (q := 8) rfl rfl rfl (fun _ => ?_) (fun c9 => absurd (by decide) c9)
    refine ar_iload_n (j := 2) (q := 15) rfl rfl rfl rfl ?_
    obtain ⟨hA, hB⟩ := h
    refine ar_b0 am_c_lt (t := 22) (q := 18) rfl rfl rfl (fun c_2 => ?_) (fun c_2 => ?_)
    · have h := hA c_2
      clear hA hB
      refine ar_aload_n (j := 0) (q := 23) rfl rfl rfl rfl ?_
      refine ar_bipush (v := (-4 : Int32)) (q := 25) rfl rfl rfl ?_
      refine ar_invv (as := [.int (-4 : Int32)]) (rest := []) (b2 := (0, 0)) (b3 := (0, 0)) (q := 28) rfl rfl rfl rfl mk_113 rfl rfl rfl rfl rfl ?_
      refine ok_no (j := 4) (by omega) (by decide) (by decide) ?_
      show am_Run am_X0 (am_meth d) 235 R 28 [some (.ref 113), some (.int a), some (.int b), some (.int v), none] [.int (-4 : Int32)] (am_mk (am_no I 4) L, 0, 0)
      exact ar_iret rfl rfl h
    · have h := hB c_2
      clear hA hB
      refine ar_iload_n (j := 3) (q := 19) rfl rfl rfl rfl ?_
      obtain ⟨hA, hB⟩ := h
      refine ar_b0 am_d_ge (t := 29) (q := 22) rfl rfl rfl (fun c_3 => ?_) (fun c_3 => ?_)
      · have h := hB c_3
        clear hA hB
        refine ar_iload_n (j := 2) (q := 30) rfl rfl rfl rfl ?_
        refine ar_bipush (v := 30) (q := 32) rfl rfl rfl ?_
        obtain ⟨hA, hB⟩ := h
        refine ar_br am_d_gt (t := 41) (q := 35) rfl rfl rfl (fun c_4 => ?_) (fun c_4 => ?_)
        · have h := hB c_4
          clear hA hB
          refine ar_aload_n (j := 0) (q := 42) rfl rfl rfl rfl ?_
          refine ar_bipush (v := (-6 : Int32)) (q := 44) rfl rfl rfl ?_
          refine ar_invv (as := [.int (-6 : Int32)]) (rest := []) (b2 := (0, 0)) (b3 := (0, 0)) (q := 47) rfl rfl rfl rfl mk_113 rfl rfl rfl rfl rfl ?_
          refine ok_no (j := 6) (by omega) (by decide) (by decide) ?_
          show am_Run am_X0 (am_meth d) 235 R 47 [some (.ref 113), some (.int a), some (.int b), some (.int v), none] [.int (-6 : Int32)] (am_mk (am_no I 6) L, 0, 0)
          exact ar_iret rfl rfl h
        · have c_4 := Classical.not_not.mp c_4
          have h := hA c_4
          clear hA hB
          refine ar_iload_n (j := 3) (q := 36) rfl rfl rfl rfl ?_
          refine ar_bipush (v := 9) (q := 38) rfl rfl rfl ?_
          obtain ⟨hA, hB⟩ := h
          refine ar_br am_c_le (t := 48) (q := 41) rfl rfl rfl (fun c_5 => ?_) (fun c_5 => ?_)
          · have h := hA c_5
            clear hA hB
            refine ar_aload_n (j := 0) (q := 49) rfl rfl rfl rfl ?_
            refine ar_getf (v := .ref 124) (q := 52) rfl rfl mk_113 rfl rfl ?_
            refine ar_iload_n (j := 1) (q := 53) rfl rfl rfl rfl ?_
            refine ar_bipush (v := 31) (q := 55) rfl rfl rfl ?_
            refine ar_ib (i := .imul) (z := a * 31) (q := 56) rfl rfl rfl rfl rfl ?_
            refine ar_iload_n (j := 2) (q := 57) rfl rfl rfl rfl ?_
            refine ar_ib (i := .iadd) (z := (a * 31) + b) (q := 58) rfl rfl rfl rfl rfl ?_
            obtain ⟨j_6, hx_7, hi_8, h⟩ := h
            refine ar_iald (v := I 124 j_6) (q := 59) rfl mk_124 (am_inE hi_8 hx_7 (by decide)) (am_clE hi_8 hx_7 (by decide)) rfl ?_
            refine ar_istore (ls' := [some (.ref 113), some (.int a), some (.int b), some (.int v), some (.int (I 124 j_6))]) (q := 61) rfl rfl rfl rfl ?_
            refine ar_aload_n (j := 0) (q := 62) rfl rfl rfl rfl ?_
            refine ar_getf (v := .ref 124) (q := 65) rfl rfl mk_113 rfl rfl ?_
            refine ar_iload_n (j := 1) (q := 66) rfl rfl rfl rfl ?_
            refine ar_bipush (v := 31) (q := 68) rfl rfl rfl ?_
            refine ar_ib (i := .imul) (z := a * 31) (q := 69) rfl rfl rfl rfl rfl ?_
            refine ar_iload_n (j := 2) (q := 70) rfl rfl rfl rfl ?_
            refine ar_ib (i := .iadd) (z := (a * 31) + b) (q := 71) rfl rfl rfl rfl rfl ?_
            refine ar_iload_n (j := 3) (q := 72) rfl rfl rfl rfl ?_
            obtain ⟨I_9, hI_10⟩ : ∃ z : Nat → Nat → Int32, z = va_up I 124 (upd (I 124) j_6 v) := ⟨_, rfl⟩
            have h := h I_9 hI_10
            refine ar_iast (hp2 := am_mk I_9 L) (q := 73) rfl mk_124 (am_inE hi_8 hx_7 (by decide)) (by rw [am_clT hi_8 hx_7 (by decide), hI_10]; exact mk_s124) rfl ?_
            refine ar_iload (q := 75) rfl rfl rfl ?_
            exact ar_iret rfl rfl h
          · have h := hB c_5
            clear hA hB
            refine ar_aload_n (j := 0) (q := 42) rfl rfl rfl rfl ?_
            refine ar_bipush (v := (-6 : Int32)) (q := 44) rfl rfl rfl ?_
            refine ar_invv (as := [.int (-6 : Int32)]) (rest := []) (b2 := (0, 0)) (b3 := (0, 0)) (q := 47) rfl rfl rfl rfl mk_113 rfl rfl rfl rfl rfl ?_
            refine ok_no (j := 6) (by omega) (by decide) (by decide) ?_
            show am_Run am_X0 (am_meth d) 235 R 47 [some (.ref 113), some (.int a), some (.int b), some (.int v), none] [.int (-6 : Int32)] (am_mk (am_no I 6) L, 0, 0)
            exact ar_iret rfl rfl h
      · have c_3 := Classical.not_not.mp c_3
        have h := hA c_3
        clear hA hB
        refine ar_aload_n (j := 0) (q := 23) rfl rfl rfl rfl ?_
        refine ar_bipush (v := (-4 : Int32)) (q := 25) rfl rfl rfl ?_
        refine ar_invv (as := [.int (-4 : Int32)]) (rest := []) (b2 := (0, 0)) (b3 := (0, 0)) (q := 28) rfl rfl rfl rfl mk_113 rfl rfl rfl rfl rfl ?_
        refine ok_no (j := 4) (by omega) (by decide) (by decide) ?_
        show am_Run am_X0 (am_meth d) 235 R 28 [some (.ref 113), some (.int a), some (.int b), some (.int v), none] [.int (-4 : Int32)] (am_mk (am_no I 4) L, 0, 0)
        exact ar_iret rfl rfl h
  · have h := hB c_1
    clear hA hB
    show am_Run am_X0 (am_meth d) 235 R 5 [some (.ref 113), some (.int a), some (.int b), some (.int v), none] [.int 0] (am_mk I L, 0, 0)
    refine ar_b0 am_c_ne (t := 14) (q := 8) rfl rfl rfl (fun c9 => absurd (by decide) c9) (fun _ => ?_)
    refine ar_aload_n (j := 0) (q := 9) rfl rfl rfl rfl ?_
    refine ar_iconst (v := (-1 : Int32)) (q := 10) rfl rfl rfl ?_
    refine ar_invv (as := [.int (-1 : Int32)]) (rest := []) (b2 := (0, 0)) (b3 := (0, 0)) (q := 13) rfl rfl rfl rfl mk_113 rfl rfl rfl rfl rfl ?_
    refine ok_no (j := 1) (by omega) (by decide) (by decide) ?_
    show am_Run am_X0 (am_meth d) 235 R 13 [some (.ref 113), some (.int a), some (.int b), some (.int v), none] [.int (-1 : Int32)] (am_mk (am_no I 1) L, 0, 0)
    exact ar_iret rfl rfl h
theorem r_M_gone_0 {d : Nat} (hd : 1 ≤ d) {R : am_R} {I : Nat → Nat → Int32} {L : Nat → Nat → Int64} {s : Int32} (h : ((0 ≤ s ∧ s < I 113 14 → (∃ j_2 : Nat, s = nI j_2 ∧ ((j_2 < 60) ∧ ((((I 132 (2 * j_2) < 0 ∨ I 132 (2 * j_2 + 1) < 0) → (R (some (.int (-9 : Int32))) (am_mk I L, 0, 0))) ∧ (¬ (I 132 (2 * j_2) < 0 ∨ I 132 (2 * j_2 + 1) < 0) → (R (some (.int (I 132 (2 * j_2) &&& (I 132 (2 * j_2 + 1) ^^^ -1)))) (am_mk I L, 0, 0)))))))) ∧ (¬ (0 ≤ s ∧ s < I 113 14) → (R (some (.int (-1 : Int32))) (am_mk (am_no I 1) L, 0, 0))))) : am_Run am_X0 (am_meth d) 236 R 0 [some (.ref 113), some (.int s)] [] (am_mk I L, 0, 0) := by
  refine ar_aload_n (j := 0) (q := 1) rfl rfl rfl rfl ?_
  refine ar_iload_n (j := 1) (q := 2) rfl rfl rfl rfl ?_
  refine ar_invv (as := [.int s]) (rest := []) (b2 := (0, 0)) (b3 := (0, 0)) (q := 5) rfl rfl rfl rfl mk_113 rfl rfl rfl rfl rfl ?_
  obtain ⟨hA, hB⟩ := h
  refine ok_M_isStay (by omega)  (fun c_1 => ?_) (fun c_1 => ?_)
  · have h := hA c_1
    clear hA hB
    show am_Run am_X0 (am_meth d) 236 R 5 [some (.ref 113), some (.int s)] [.int 1] (am_mk I L, 0, 0)
    refine ar_b0 am_c_ne (t := 14) (q := 8) rfl rfl rfl (fun _ => ?_) (fun c9 => absurd (by decide) c9)
    refine ar_aload_n (j := 0) (q := 15) rfl rfl rfl rfl ?_
    refine ar_iload_n (j := 1) (q := 16) rfl rfl rfl rfl ?_
    refine ar_invv (as := [.int s]) (rest := []) (b2 := (0, 0)) (b3 := (0, 0)) (q := 19) rfl rfl rfl rfl mk_113 rfl rfl rfl rfl rfl ?_
    obtain ⟨j_2, hi_3, h⟩ := h
    obtain ⟨hp_4, h⟩ := h
    obtain ⟨hC0, hC1⟩ := h
    refine ok_M_goneOf (by omega) hi_3 hp_4 (fun c_5 => ?_) (fun c_5 => ?_)
    · have h := hC0 c_5
      clear hC0 hC1
      show am_Run am_X0 (am_meth d) 236 R 19 [some (.ref 113), some (.int s)] [.int (-9 : Int32)] (am_mk I L, 0, 0)
      exact ar_iret rfl rfl h
    · have h := hC1 c_5
      clear hC0 hC1
      show am_Run am_X0 (am_meth d) 236 R 19 [some (.ref 113), some (.int s)] [.int (I 132 (2 * j_2) &&& (I 132 (2 * j_2 + 1) ^^^ -1))] (am_mk I L, 0, 0)
      exact ar_iret rfl rfl h
  · have h := hB c_1
    clear hA hB
    show am_Run am_X0 (am_meth d) 236 R 5 [some (.ref 113), some (.int s)] [.int 0] (am_mk I L, 0, 0)
    refine ar_b0 am_c_ne (t := 14) (q := 8) rfl rfl rfl (fun c9 => absurd (by decide) c9) (fun _ => ?_)
    refine ar_aload_n (j := 0) (q := 9) rfl rfl rfl rfl ?_
    refine ar_iconst (v := (-1 : Int32)) (q := 10) rfl rfl rfl ?_
    refine ar_invv (as := [.int (-1 : Int32)]) (rest := []) (b2 := (0, 0)) (b3 := (0, 0)) (q := 13) rfl rfl rfl rfl mk_113 rfl rfl rfl rfl rfl ?_
    refine ok_no (j := 1) (by omega) (by decide) (by decide) ?_
    show am_Run am_X0 (am_meth d) 236 R 13 [some (.ref 113), some (.int s)] [.int (-1 : Int32)] (am_mk (am_no I 1) L, 0, 0)
    exact ar_iret rfl rfl h
theorem r_M_list_0 {d : Nat} (hd : 1 ≤ d) {R : am_R} {I : Nat → Nat → Int32} {L : Nat → Nat → Int64} {s : Int32} {a : Int32} {x : Int32} (h : ((0 ≤ s ∧ s < I 113 14 → (∃ j_2 : Nat, j_2 < 60 ∧ s = nI j_2 ∧ ((((I 128 j_2) = 1 → (((a = 0 → ((((I 113 0) ≤ (I 126 j_2) → (((x < 0 → (R (some (.int (-4 : Int32))) (am_mk (am_no I 4) L, 0, 0))) ∧ (¬ x < 0 → (∃ j_9 : Nat, j_9 < 120 ∧ 2 * s = nI j_9 ∧ ((((I 132 j_9) < 0 → (∀ I_13 : Nat → Nat → Int32, I_13 = va_up I 132 (upd (I 132) j_9 x) → (R (some (.int 1)) (am_mk I_13 L, 0, 0)))) ∧ (¬ (I 132 j_9) < 0 → (∀ I_15 : Nat → Nat → Int32, I_15 = va_up I 132 (upd (I 132) j_9 x) → (R (some (.int 0)) (am_mk I_15 L, 0, 0))))))))))) ∧ (¬ (I 113 0) ≤ (I 126 j_2) → (R (some (.int (-3 : Int32))) (am_mk (am_no I 3) L, 0, 0)))))) ∧ (¬ a = 0 → ((j_2 < 60) ∧ (((I 127 j_2 < I 113 0 → (((x < 0 → (R (some (.int (-4 : Int32))) (am_mk (am_no I 4) L, 0, 0))) ∧ (¬ x < 0 → (∃ j_20 : Nat, j_20 < 120 ∧ (2 * s) + 1 = nI j_20 ∧ ((((I 132 j_20) < 0 → (∀ I_24 : Nat → Nat → Int32, I_24 = va_up I 132 (upd (I 132) j_20 x) → (R (some (.int 1)) (am_mk I_24 L, 0, 0)))) ∧ (¬ (I 132 j_20) < 0 → (∀ I_26 : Nat → Nat → Int32, I_26 = va_up I 132 (upd (I 132) j_20 x) → (R (some (.int 0)) (am_mk I_26 L, 0, 0))))))))))) ∧ (¬ (I 127 j_2 < I 113 0) → (R (some (.int (-3 : Int32))) (am_mk (am_no I 3) L, 0, 0)))))))))) ∧ (¬ (I 128 j_2) = 1 → (R (some (.int (-3 : Int32))) (am_mk (am_no I 3) L, 0, 0))))))) ∧ (¬ (0 ≤ s ∧ s < I 113 14) → (R (some (.int (-1 : Int32))) (am_mk (am_no I 1) L, 0, 0))))) : am_Run am_X0 (am_meth d) 234 R 0 [some (.ref 113), some (.int s), some (.int a), some (.int x), none, none] [] (am_mk I L, 0, 0) := by
  refine ar_aload_n (j := 0) (q := 1) rfl rfl rfl rfl ?_
  refine ar_iload_n (j := 1) (q := 2) rfl rfl rfl rfl ?_
  refine ar_invv (as := [.int s]) (rest := []) (b2 := (0, 0)) (b3 := (0, 0)) (q := 5) rfl rfl rfl rfl mk_113 rfl rfl rfl rfl rfl ?_
  obtain ⟨hA, hB⟩ := h
  refine ok_M_isStay (by omega)  (fun c_1 => ?_) (fun c_1 => ?_)
  · have h := hA c_1
    clear hA hB
    show am_Run am_X0 (am_meth d) 234 R 5 [some (.ref 113), some (.int s), some (.int a), some (.int x), none, none] [.int 1] (am_mk I L, 0, 0)
    refine ar_b0 am_c_ne (t := 14) (q := 8) rfl rfl rfl (fun _ => ?_) (fun c9 => absurd (by decide) c9)
    refine ar_aload_n (j := 0) (q := 15) rfl rfl rfl rfl ?_
    refine ar_getf (v := .ref 128) (q := 18) rfl rfl mk_113 rfl rfl ?_
    refine ar_iload_n (j := 1) (q := 19) rfl rfl rfl rfl ?_
    obtain ⟨j_2, hx_3, hi_4, h⟩ := h
    refine ar_iald (v := I 128 j_2) (q := 20) rfl mk_128 (am_inE hi_4 hx_3 (by decide)) (am_clE hi_4 hx_3 (by decide)) rfl ?_
    refine ar_iconst (v := 1) (q := 21) rfl rfl rfl ?_
    obtain ⟨hA, hB⟩ := h
    refine ar_br am_c_ne (t := 53) (q := 24) rfl rfl rfl (fun c_5 => ?_) (fun c_5 => ?_)
    · have h := hB c_5
      clear hA hB
      refine ar_aload_n (j := 0) (q := 54) rfl rfl rfl rfl ?_
      refine ar_bipush (v := (-3 : Int32)) (q := 56) rfl rfl rfl ?_
      refine ar_invv (as := [.int (-3 : Int32)]) (rest := []) (b2 := (0, 0)) (b3 := (0, 0)) (q := 59) rfl rfl rfl rfl mk_113 rfl rfl rfl rfl rfl ?_
      refine ok_no (j := 3) (by omega) (by decide) (by decide) ?_
      show am_Run am_X0 (am_meth d) 234 R 59 [some (.ref 113), some (.int s), some (.int a), some (.int x), none, none] [.int (-3 : Int32)] (am_mk (am_no I 3) L, 0, 0)
      exact ar_iret rfl rfl h
    · have c_5 := Classical.not_not.mp c_5
      have h := hA c_5
      clear hA hB
      refine ar_iload_n (j := 2) (q := 25) rfl rfl rfl rfl ?_
      obtain ⟨hA, hB⟩ := h
      refine ar_b0 am_c_ne (t := 41) (q := 28) rfl rfl rfl (fun c_6 => ?_) (fun c_6 => ?_)
      · have h := hB c_6
        clear hA hB
        refine ar_iload_n (j := 2) (q := 42) rfl rfl rfl rfl ?_
        refine ar_b0 am_c_eq (t := 60) (q := 45) rfl rfl rfl (fun c9 => absurd c9 c_6) (fun _ => ?_)
        refine ar_aload_n (j := 0) (q := 46) rfl rfl rfl rfl ?_
        refine ar_iload_n (j := 1) (q := 47) rfl rfl rfl rfl ?_
        refine ar_invv (as := [.int s]) (rest := []) (b2 := (0, 0)) (b3 := (0, 0)) (q := 50) rfl rfl rfl rfl mk_113 rfl rfl rfl rfl rfl ?_
        obtain ⟨hp_18, h⟩ := h
        obtain ⟨hA, hB⟩ := h
        refine ok_M_isOver (by omega) hi_4 hp_18 (fun c_17 => ?_) (fun c_17 => ?_)
        · have h := hA c_17
          clear hA hB
          show am_Run am_X0 (am_meth d) 234 R 50 [some (.ref 113), some (.int s), some (.int a), some (.int x), none, none] [.int 1] (am_mk I L, 0, 0)
          refine ar_b0 am_c_ne (t := 60) (q := 53) rfl rfl rfl (fun _ => ?_) (fun c9 => absurd (by decide) c9)
          refine ar_iload_n (j := 3) (q := 61) rfl rfl rfl rfl ?_
          obtain ⟨hA, hB⟩ := h
          refine ar_b0 am_d_ge (t := 71) (q := 64) rfl rfl rfl (fun c_19 => ?_) (fun c_19 => ?_)
          · have h := hB c_19
            clear hA hB
            refine ar_iload_n (j := 2) (q := 72) rfl rfl rfl rfl ?_
            refine ar_b0 am_c_eq (t := 83) (q := 75) rfl rfl rfl (fun c9 => absurd c9 c_6) (fun _ => ?_)
            refine ar_iconst (v := 2) (q := 76) rfl rfl rfl ?_
            refine ar_iload_n (j := 1) (q := 77) rfl rfl rfl rfl ?_
            refine ar_ib (i := .imul) (z := 2 * s) (q := 78) rfl rfl rfl rfl rfl ?_
            refine ar_iconst (v := 1) (q := 79) rfl rfl rfl ?_
            refine ar_ib (i := .iadd) (z := (2 * s) + 1) (q := 80) rfl rfl rfl rfl rfl ?_
            refine ar_goto (t := 86) rfl rfl ?_
            refine ar_istore (ls' := [some (.ref 113), some (.int s), some (.int a), some (.int x), some (.int ((2 * s) + 1)), none]) (q := 88) rfl rfl rfl rfl ?_
            refine ar_aload_n (j := 0) (q := 89) rfl rfl rfl rfl ?_
            refine ar_getf (v := .ref 132) (q := 92) rfl rfl mk_113 rfl rfl ?_
            refine ar_iload (q := 94) rfl rfl rfl ?_
            obtain ⟨j_20, hx_21, hi_22, h⟩ := h
            refine ar_iald (v := I 132 j_20) (q := 95) rfl mk_132 (am_inE hi_22 hx_21 (by decide)) (am_clE hi_22 hx_21 (by decide)) rfl ?_
            obtain ⟨hA, hB⟩ := h
            refine ar_b0 am_c_lt (t := 102) (q := 98) rfl rfl rfl (fun c_23 => ?_) (fun c_23 => ?_)
            · have h := hA c_23
              clear hA hB
              refine ar_iconst (v := 0) (q := 103) rfl rfl rfl ?_
              refine ar_istore (ls' := [some (.ref 113), some (.int s), some (.int a), some (.int x), some (.int ((2 * s) + 1)), some (.int 0)]) (q := 105) rfl rfl rfl rfl ?_
              refine ar_aload_n (j := 0) (q := 106) rfl rfl rfl rfl ?_
              refine ar_getf (v := .ref 132) (q := 109) rfl rfl mk_113 rfl rfl ?_
              refine ar_iload (q := 111) rfl rfl rfl ?_
              refine ar_iload_n (j := 3) (q := 112) rfl rfl rfl rfl ?_
              obtain ⟨I_24, hI_25⟩ : ∃ z : Nat → Nat → Int32, z = va_up I 132 (upd (I 132) j_20 x) := ⟨_, rfl⟩
              have h := h I_24 hI_25
              refine ar_iast (hp2 := am_mk I_24 L) (q := 113) rfl mk_132 (am_inE hi_22 hx_21 (by decide)) (by rw [am_clT hi_22 hx_21 (by decide), hI_25]; exact mk_s132) rfl ?_
              refine ar_iload (q := 115) rfl rfl rfl ?_
              refine ar_b0 am_c_eq (t := 122) (q := 118) rfl rfl rfl (fun _ => ?_) (fun c9 => absurd (by decide) c9)
              refine ar_iconst (v := 1) (q := 123) rfl rfl rfl ?_
              exact ar_iret rfl rfl h
            · have h := hB c_23
              clear hA hB
              refine ar_iconst (v := 1) (q := 99) rfl rfl rfl ?_
              refine ar_goto (t := 103) rfl rfl ?_
              refine ar_istore (ls' := [some (.ref 113), some (.int s), some (.int a), some (.int x), some (.int ((2 * s) + 1)), some (.int 1)]) (q := 105) rfl rfl rfl rfl ?_
              refine ar_aload_n (j := 0) (q := 106) rfl rfl rfl rfl ?_
              refine ar_getf (v := .ref 132) (q := 109) rfl rfl mk_113 rfl rfl ?_
              refine ar_iload (q := 111) rfl rfl rfl ?_
              refine ar_iload_n (j := 3) (q := 112) rfl rfl rfl rfl ?_
              obtain ⟨I_26, hI_27⟩ : ∃ z : Nat → Nat → Int32, z = va_up I 132 (upd (I 132) j_20 x) := ⟨_, rfl⟩
              have h := h I_26 hI_27
              refine ar_iast (hp2 := am_mk I_26 L) (q := 113) rfl mk_132 (am_inE hi_22 hx_21 (by decide)) (by rw [am_clT hi_22 hx_21 (by decide), hI_27]; exact mk_s132) rfl ?_
              refine ar_iload (q := 115) rfl rfl rfl ?_
              refine ar_b0 am_c_eq (t := 122) (q := 118) rfl rfl rfl (fun c9 => absurd c9 (by decide)) (fun _ => ?_)
              refine ar_iconst (v := 0) (q := 119) rfl rfl rfl ?_
              refine ar_goto (t := 123) rfl rfl ?_
              exact ar_iret rfl rfl h
          · have c_19 := Classical.not_not.mp c_19
            have h := hA c_19
            clear hA hB
            refine ar_aload_n (j := 0) (q := 65) rfl rfl rfl rfl ?_
            refine ar_bipush (v := (-4 : Int32)) (q := 67) rfl rfl rfl ?_
            refine ar_invv (as := [.int (-4 : Int32)]) (rest := []) (b2 := (0, 0)) (b3 := (0, 0)) (q := 70) rfl rfl rfl rfl mk_113 rfl rfl rfl rfl rfl ?_
            refine ok_no (j := 4) (by omega) (by decide) (by decide) ?_
            show am_Run am_X0 (am_meth d) 234 R 70 [some (.ref 113), some (.int s), some (.int a), some (.int x), none, none] [.int (-4 : Int32)] (am_mk (am_no I 4) L, 0, 0)
            exact ar_iret rfl rfl h
        · have h := hB c_17
          clear hA hB
          show am_Run am_X0 (am_meth d) 234 R 50 [some (.ref 113), some (.int s), some (.int a), some (.int x), none, none] [.int 0] (am_mk I L, 0, 0)
          refine ar_b0 am_c_ne (t := 60) (q := 53) rfl rfl rfl (fun c9 => absurd (by decide) c9) (fun _ => ?_)
          refine ar_aload_n (j := 0) (q := 54) rfl rfl rfl rfl ?_
          refine ar_bipush (v := (-3 : Int32)) (q := 56) rfl rfl rfl ?_
          refine ar_invv (as := [.int (-3 : Int32)]) (rest := []) (b2 := (0, 0)) (b3 := (0, 0)) (q := 59) rfl rfl rfl rfl mk_113 rfl rfl rfl rfl rfl ?_
          refine ok_no (j := 3) (by omega) (by decide) (by decide) ?_
          show am_Run am_X0 (am_meth d) 234 R 59 [some (.ref 113), some (.int s), some (.int a), some (.int x), none, none] [.int (-3 : Int32)] (am_mk (am_no I 3) L, 0, 0)
          exact ar_iret rfl rfl h
      · have c_6 := Classical.not_not.mp c_6
        have h := hA c_6
        clear hA hB
        refine ar_aload_n (j := 0) (q := 29) rfl rfl rfl rfl ?_
        refine ar_getf (v := .int (I 113 0)) (q := 32) rfl rfl mk_113 rfl rfl ?_
        refine ar_aload_n (j := 0) (q := 33) rfl rfl rfl rfl ?_
        refine ar_getf (v := .ref 126) (q := 36) rfl rfl mk_113 rfl rfl ?_
        refine ar_iload_n (j := 1) (q := 37) rfl rfl rfl rfl ?_
        refine ar_iald (v := I 126 j_2) (q := 38) rfl mk_126 (am_inE hi_4 hx_3 (by decide)) (am_clE hi_4 hx_3 (by decide)) rfl ?_
        obtain ⟨hA, hB⟩ := h
        refine ar_br am_d_gt (t := 53) (q := 41) rfl rfl rfl (fun c_7 => ?_) (fun c_7 => ?_)
        · have h := hB c_7
          clear hA hB
          refine ar_aload_n (j := 0) (q := 54) rfl rfl rfl rfl ?_
          refine ar_bipush (v := (-3 : Int32)) (q := 56) rfl rfl rfl ?_
          refine ar_invv (as := [.int (-3 : Int32)]) (rest := []) (b2 := (0, 0)) (b3 := (0, 0)) (q := 59) rfl rfl rfl rfl mk_113 rfl rfl rfl rfl rfl ?_
          refine ok_no (j := 3) (by omega) (by decide) (by decide) ?_
          show am_Run am_X0 (am_meth d) 234 R 59 [some (.ref 113), some (.int s), some (.int a), some (.int x), none, none] [.int (-3 : Int32)] (am_mk (am_no I 3) L, 0, 0)
          exact ar_iret rfl rfl h
        · have c_7 := Classical.not_not.mp c_7
          have h := hA c_7
          clear hA hB
          refine ar_iload_n (j := 2) (q := 42) rfl rfl rfl rfl ?_
          refine ar_b0 am_c_eq (t := 60) (q := 45) rfl rfl rfl (fun _ => ?_) (fun c9 => absurd c_6 c9)
          refine ar_iload_n (j := 3) (q := 61) rfl rfl rfl rfl ?_
          obtain ⟨hA, hB⟩ := h
          refine ar_b0 am_d_ge (t := 71) (q := 64) rfl rfl rfl (fun c_8 => ?_) (fun c_8 => ?_)
          · have h := hB c_8
            clear hA hB
            refine ar_iload_n (j := 2) (q := 72) rfl rfl rfl rfl ?_
            refine ar_b0 am_c_eq (t := 83) (q := 75) rfl rfl rfl (fun _ => ?_) (fun c9 => absurd c_6 c9)
            refine ar_iconst (v := 2) (q := 84) rfl rfl rfl ?_
            refine ar_iload_n (j := 1) (q := 85) rfl rfl rfl rfl ?_
            refine ar_ib (i := .imul) (z := 2 * s) (q := 86) rfl rfl rfl rfl rfl ?_
            refine ar_istore (ls' := [some (.ref 113), some (.int s), some (.int a), some (.int x), some (.int (2 * s)), none]) (q := 88) rfl rfl rfl rfl ?_
            refine ar_aload_n (j := 0) (q := 89) rfl rfl rfl rfl ?_
            refine ar_getf (v := .ref 132) (q := 92) rfl rfl mk_113 rfl rfl ?_
            refine ar_iload (q := 94) rfl rfl rfl ?_
            obtain ⟨j_9, hx_10, hi_11, h⟩ := h
            refine ar_iald (v := I 132 j_9) (q := 95) rfl mk_132 (am_inE hi_11 hx_10 (by decide)) (am_clE hi_11 hx_10 (by decide)) rfl ?_
            obtain ⟨hA, hB⟩ := h
            refine ar_b0 am_c_lt (t := 102) (q := 98) rfl rfl rfl (fun c_12 => ?_) (fun c_12 => ?_)
            · have h := hA c_12
              clear hA hB
              refine ar_iconst (v := 0) (q := 103) rfl rfl rfl ?_
              refine ar_istore (ls' := [some (.ref 113), some (.int s), some (.int a), some (.int x), some (.int (2 * s)), some (.int 0)]) (q := 105) rfl rfl rfl rfl ?_
              refine ar_aload_n (j := 0) (q := 106) rfl rfl rfl rfl ?_
              refine ar_getf (v := .ref 132) (q := 109) rfl rfl mk_113 rfl rfl ?_
              refine ar_iload (q := 111) rfl rfl rfl ?_
              refine ar_iload_n (j := 3) (q := 112) rfl rfl rfl rfl ?_
              obtain ⟨I_13, hI_14⟩ : ∃ z : Nat → Nat → Int32, z = va_up I 132 (upd (I 132) j_9 x) := ⟨_, rfl⟩
              have h := h I_13 hI_14
              refine ar_iast (hp2 := am_mk I_13 L) (q := 113) rfl mk_132 (am_inE hi_11 hx_10 (by decide)) (by rw [am_clT hi_11 hx_10 (by decide), hI_14]; exact mk_s132) rfl ?_
              refine ar_iload (q := 115) rfl rfl rfl ?_
              refine ar_b0 am_c_eq (t := 122) (q := 118) rfl rfl rfl (fun _ => ?_) (fun c9 => absurd (by decide) c9)
              refine ar_iconst (v := 1) (q := 123) rfl rfl rfl ?_
              exact ar_iret rfl rfl h
            · have h := hB c_12
              clear hA hB
              refine ar_iconst (v := 1) (q := 99) rfl rfl rfl ?_
              refine ar_goto (t := 103) rfl rfl ?_
              refine ar_istore (ls' := [some (.ref 113), some (.int s), some (.int a), some (.int x), some (.int (2 * s)), some (.int 1)]) (q := 105) rfl rfl rfl rfl ?_
              refine ar_aload_n (j := 0) (q := 106) rfl rfl rfl rfl ?_
              refine ar_getf (v := .ref 132) (q := 109) rfl rfl mk_113 rfl rfl ?_
              refine ar_iload (q := 111) rfl rfl rfl ?_
              refine ar_iload_n (j := 3) (q := 112) rfl rfl rfl rfl ?_
              obtain ⟨I_15, hI_16⟩ : ∃ z : Nat → Nat → Int32, z = va_up I 132 (upd (I 132) j_9 x) := ⟨_, rfl⟩
              have h := h I_15 hI_16
              refine ar_iast (hp2 := am_mk I_15 L) (q := 113) rfl mk_132 (am_inE hi_11 hx_10 (by decide)) (by rw [am_clT hi_11 hx_10 (by decide), hI_16]; exact mk_s132) rfl ?_
              refine ar_iload (q := 115) rfl rfl rfl ?_
              refine ar_b0 am_c_eq (t := 122) (q := 118) rfl rfl rfl (fun c9 => absurd c9 (by decide)) (fun _ => ?_)
              refine ar_iconst (v := 0) (q := 119) rfl rfl rfl ?_
              refine ar_goto (t := 123) rfl rfl ?_
              exact ar_iret rfl rfl h
          · have c_8 := Classical.not_not.mp c_8
            have h := hA c_8
            clear hA hB
            refine ar_aload_n (j := 0) (q := 65) rfl rfl rfl rfl ?_
            refine ar_bipush (v := (-4 : Int32)) (q := 67) rfl rfl rfl ?_
            refine ar_invv (as := [.int (-4 : Int32)]) (rest := []) (b2 := (0, 0)) (b3 := (0, 0)) (q := 70) rfl rfl rfl rfl mk_113 rfl rfl rfl rfl rfl ?_
            refine ok_no (j := 4) (by omega) (by decide) (by decide) ?_
            show am_Run am_X0 (am_meth d) 234 R 70 [some (.ref 113), some (.int s), some (.int a), some (.int x), none, none] [.int (-4 : Int32)] (am_mk (am_no I 4) L, 0, 0)
            exact ar_iret rfl rfl h
  · have h := hB c_1
    clear hA hB
    show am_Run am_X0 (am_meth d) 234 R 5 [some (.ref 113), some (.int s), some (.int a), some (.int x), none, none] [.int 0] (am_mk I L, 0, 0)
    refine ar_b0 am_c_ne (t := 14) (q := 8) rfl rfl rfl (fun c9 => absurd (by decide) c9) (fun _ => ?_)
    refine ar_aload_n (j := 0) (q := 9) rfl rfl rfl rfl ?_
    refine ar_iconst (v := (-1 : Int32)) (q := 10) rfl rfl rfl ?_
    refine ar_invv (as := [.int (-1 : Int32)]) (rest := []) (b2 := (0, 0)) (b3 := (0, 0)) (q := 13) rfl rfl rfl rfl mk_113 rfl rfl rfl rfl rfl ?_
    refine ok_no (j := 1) (by omega) (by decide) (by decide) ?_
    show am_Run am_X0 (am_meth d) 234 R 13 [some (.ref 113), some (.int s), some (.int a), some (.int x), none, none] [.int (-1 : Int32)] (am_mk (am_no I 1) L, 0, 0)
    exact ar_iret rfl rfl h
