theorem r_Rules_gatherStaysOf_0 {d : Nat} {R : am_R} {I : Nat → Nat → Int32} {L : Nat → Nat → Int64} {k : Int32} (h : ∀ I_1 : Nat → Nat → Int32, I_1 = va_up I 99 (upd (I 99) 8 0) → (am_Run am_X0 (am_meth d) 93 R 7 [some (.ref 99), some (.int k), some (.int 0)] [] (am_mk I_1 L, 0, 0))) : am_Run am_X0 (am_meth d) 93 R 0 [some (.ref 99), some (.int k), none] [] (am_mk I L, 0, 0) := by
  refine ar_aload_n (j := 0) (q := 1) rfl rfl rfl rfl ?_
  refine ar_iconst (v := 0) (q := 2) rfl rfl rfl ?_
  obtain ⟨I_1, hI_2⟩ : ∃ z : Nat → Nat → Int32, z = va_up I 99 (upd (I 99) 8 0) := ⟨_, rfl⟩
  have h := h I_1 hI_2
  refine ar_putf (hp2 := am_mk I_1 L) (q := 5) rfl rfl mk_99 rfl (by rw [hI_2]; exact mk_p99_8) rfl ?_
  refine ar_iconst (v := 0) (q := 6) rfl rfl rfl ?_
  refine ar_istore_n (j := 2) (ls' := [some (.ref 99), some (.int k), some (.int 0)]) (q := 7) rfl rfl rfl rfl rfl ?_
  exact am_Run.weak (ls' := _) (by exact ⟨rfl, ⟨rfl, ⟨rfl, trivial⟩⟩⟩) h
theorem r_Rules_gatherStaysOf_7 {d : Nat} (hd : 1 ≤ d) {R : am_R} {I : Nat → Nat → Int32} {L : Nat → Nat → Int64} {k : Int32} {s : Nat} (h : (((nI s) < (I 66 1) → ((s < 60) ∧ (((I 70 s = 1 ∧ I 71 s = k → ((am_ix I 99 8 120) ∧ (am_Run am_X0 (am_meth d) 93 R 7 [some (.ref 99), some (.int k), some (.int (nI (s + 1)))] [] (am_mk (va_up (va_up I 99 (upd (I 99) 8 (I 99 8 + 1))) 101 (upd (I 101) (am_n I 99 8) (nI s))) L, 0, 0)))) ∧ (¬ (I 70 s = 1 ∧ I 71 s = k) → (am_Run am_X0 (am_meth d) 93 R 7 [some (.ref 99), some (.int k), some (.int (nI (s + 1)))] [] (am_mk I L, 0, 0))))))) ∧ (¬ (nI s) < (I 66 1) → (R none (am_mk I L, 0, 0))))) : am_Run am_X0 (am_meth d) 93 R 7 [some (.ref 99), some (.int k), some (.int (nI s))] [] (am_mk I L, 0, 0) := by
  refine ar_iload_n (j := 2) (q := 8) rfl rfl rfl rfl ?_
  refine ar_aload_n (j := 0) (q := 9) rfl rfl rfl rfl ?_
  refine ar_getf (v := .ref 66) (q := 12) rfl rfl mk_99 rfl rfl ?_
  refine ar_getf (v := .int (I 66 1)) (q := 15) rfl rfl mk_66 rfl rfl ?_
  obtain ⟨hA, hB⟩ := h
  refine ar_br am_d_ge (t := 41) (q := 18) rfl rfl rfl (fun c_1 => ?_) (fun c_1 => ?_)
  · have h := hB c_1
    clear hA hB
    exact ar_vret rfl rfl h
  · have c_1 := Classical.not_not.mp c_1
    have h := hA c_1
    clear hA hB
    refine ar_aload_n (j := 0) (q := 19) rfl rfl rfl rfl ?_
    refine ar_getf (v := .ref 66) (q := 22) rfl rfl mk_99 rfl rfl ?_
    refine ar_iload_n (j := 2) (q := 23) rfl rfl rfl rfl ?_
    refine ar_iload_n (j := 1) (q := 24) rfl rfl rfl rfl ?_
    refine ar_invv (as := [.int (nI s), .int k]) (rest := []) (b2 := (0, 0)) (b3 := (0, 0)) (q := 27) rfl rfl rfl rfl mk_66 rfl rfl rfl rfl rfl ?_
    obtain ⟨hp_3, h⟩ := h
    obtain ⟨hA, hB⟩ := h
    refine ok_St_isTakenBy (by omega) rfl hp_3 (fun c_2 => ?_) (fun c_2 => ?_)
    · have h := hA c_2
      clear hA hB
      show am_Run am_X0 (am_meth d) 93 R 27 [some (.ref 99), some (.int k), some (.int (nI s))] [.int 1] (am_mk I L, 0, 0)
      refine ar_b0 am_c_eq (t := 35) (q := 30) rfl rfl rfl (fun c9 => absurd c9 (by decide)) (fun _ => ?_)
      refine ar_aload_n (j := 0) (q := 31) rfl rfl rfl rfl ?_
      refine ar_iload_n (j := 2) (q := 32) rfl rfl rfl rfl ?_
      refine ar_invv (as := [.int (nI s)]) (rest := []) (b2 := (0, 0)) (b3 := (0, 0)) (q := 35) rfl rfl rfl rfl mk_99 rfl rfl rfl rfl rfl ?_
      obtain ⟨hp_4, h⟩ := h
      refine ok_Ru_addToMine (by omega) hp_4 ?_
      show am_Run am_X0 (am_meth d) 93 R 35 [some (.ref 99), some (.int k), some (.int (nI s))] [] (am_mk (va_up (va_up I 99 (upd (I 99) 8 (I 99 8 + 1))) 101 (upd (I 101) (am_n I 99 8) (nI s))) L, 0, 0)
      refine ar_iinc (v := nI (s + 1)) (ls' := [some (.ref 99), some (.int k), some (.int (nI (s + 1)))]) (q := 38) rfl rfl rfl (nI_1 _) rfl rfl ?_
      refine ar_goto (t := 7) rfl rfl ?_
      exact am_Run.weak (ls' := _) (by exact ⟨rfl, ⟨rfl, ⟨rfl, trivial⟩⟩⟩) h
    · have h := hB c_2
      clear hA hB
      show am_Run am_X0 (am_meth d) 93 R 27 [some (.ref 99), some (.int k), some (.int (nI s))] [.int 0] (am_mk I L, 0, 0)
      refine ar_b0 am_c_eq (t := 35) (q := 30) rfl rfl rfl (fun _ => ?_) (fun c9 => absurd (by decide) c9)
      refine ar_iinc (v := nI (s + 1)) (ls' := [some (.ref 99), some (.int k), some (.int (nI (s + 1)))]) (q := 38) rfl rfl rfl (nI_1 _) rfl rfl ?_
      refine ar_goto (t := 7) rfl rfl ?_
      exact am_Run.weak (ls' := _) (by exact ⟨rfl, ⟨rfl, ⟨rfl, trivial⟩⟩⟩) h
theorem r_Rules_clashesWithMine_0 {d : Nat} {R : am_R} {I : Nat → Nat → Int32} {L : Nat → Nat → Int64} {s : Nat} (h : am_Run am_X0 (am_meth d) 99 R 2 [some (.ref 99), some (.int (nI s)), some (.int 0)] [] (am_mk I L, 0, 0)) : am_Run am_X0 (am_meth d) 99 R 0 [some (.ref 99), some (.int (nI s)), none] [] (am_mk I L, 0, 0) := by
  refine ar_iconst (v := 0) (q := 1) rfl rfl rfl ?_
  refine ar_istore_n (j := 2) (ls' := [some (.ref 99), some (.int (nI s)), some (.int 0)]) (q := 2) rfl rfl rfl rfl rfl ?_
  exact am_Run.weak (ls' := _) (by exact ⟨rfl, ⟨rfl, ⟨rfl, trivial⟩⟩⟩) h
theorem r_Rules_clashesWithMine_2 {d : Nat} (hd : 2 ≤ d) {R : am_R} {I : Nat → Nat → Int32} {L : Nat → Nat → Int64} {s : Nat} {i : Nat} (h : (((nI i) < (I 99 8) → (i < 120 ∧ (s < 60 ∧ (∃ j_4 : Nat, I 101 i = nI j_4 ∧ ((j_4 < 60) ∧ ((((am_dw (I 68 j_4) (I 69 j_4) (I 68 s) (I 69 s)) ≤ 0 → (am_Run am_X0 (am_meth d) 99 R 2 [some (.ref 99), some (.int (nI s)), some (.int (nI (i + 1)))] [] (am_mk I L, 0, 0))) ∧ (¬ (am_dw (I 68 j_4) (I 69 j_4) (I 68 s) (I 69 s)) ≤ 0 → (R (some (.int 1)) (am_mk I L, 0, 0)))))))))) ∧ (¬ (nI i) < (I 99 8) → (R (some (.int 0)) (am_mk I L, 0, 0))))) : am_Run am_X0 (am_meth d) 99 R 2 [some (.ref 99), some (.int (nI s)), some (.int (nI i))] [] (am_mk I L, 0, 0) := by
  refine ar_iload_n (j := 2) (q := 3) rfl rfl rfl rfl ?_
  refine ar_aload_n (j := 0) (q := 4) rfl rfl rfl rfl ?_
  refine ar_getf (v := .int (I 99 8)) (q := 7) rfl rfl mk_99 rfl rfl ?_
  obtain ⟨hA, hB⟩ := h
  refine ar_br am_d_ge (t := 52) (q := 10) rfl rfl rfl (fun c_1 => ?_) (fun c_1 => ?_)
  · have h := hB c_1
    clear hA hB
    refine ar_iconst (v := 0) (q := 53) rfl rfl rfl ?_
    exact ar_zret rfl rfl (Or.inl rfl) h
  · have c_1 := Classical.not_not.mp c_1
    have h := hA c_1
    clear hA hB
    refine ar_aload_n (j := 0) (q := 11) rfl rfl rfl rfl ?_
    refine ar_getf (v := .ref 66) (q := 14) rfl rfl mk_99 rfl rfl ?_
    refine ar_aload_n (j := 0) (q := 15) rfl rfl rfl rfl ?_
    refine ar_getf (v := .ref 101) (q := 18) rfl rfl mk_99 rfl rfl ?_
    refine ar_iload_n (j := 2) (q := 19) rfl rfl rfl rfl ?_
    obtain ⟨hx_2, h⟩ := h
    refine ar_iald (v := I 101 i) (q := 20) rfl mk_101 (am_inE rfl hx_2 (by decide)) (am_clE rfl hx_2 (by decide)) rfl ?_
    refine ar_aload_n (j := 0) (q := 21) rfl rfl rfl rfl ?_
    refine ar_getf (v := .ref 66) (q := 24) rfl rfl mk_99 rfl rfl ?_
    refine ar_getf (v := .ref 68) (q := 27) rfl rfl mk_66 rfl rfl ?_
    refine ar_iload_n (j := 1) (q := 28) rfl rfl rfl rfl ?_
    obtain ⟨hx_3, h⟩ := h
    refine ar_iald (v := I 68 s) (q := 29) rfl mk_68 (am_inE rfl hx_3 (by decide)) (am_clE rfl hx_3 (by decide)) rfl ?_
    refine ar_aload_n (j := 0) (q := 30) rfl rfl rfl rfl ?_
    refine ar_getf (v := .ref 66) (q := 33) rfl rfl mk_99 rfl rfl ?_
    refine ar_getf (v := .ref 69) (q := 36) rfl rfl mk_66 rfl rfl ?_
    refine ar_iload_n (j := 1) (q := 37) rfl rfl rfl rfl ?_
    refine ar_iald (v := I 69 s) (q := 38) rfl mk_69 (am_inE rfl hx_3 (by decide)) (am_clE rfl hx_3 (by decide)) rfl ?_
    refine ar_invv (as := [.int (I 101 i), .int (I 68 s), .int (I 69 s)]) (rest := []) (b2 := (0, 0)) (b3 := (0, 0)) (q := 41) rfl rfl rfl rfl mk_66 rfl rfl rfl rfl rfl ?_
    obtain ⟨j_4, hi_5, h⟩ := h
    obtain ⟨hp_6, h⟩ := h
    refine ok_St_daysWithin (by omega) hi_5 hp_6 ?_
    show am_Run am_X0 (am_meth d) 99 R 41 [some (.ref 99), some (.int (nI s)), some (.int (nI i))] [.int (am_dw (I 68 j_4) (I 69 j_4) (I 68 s) (I 69 s))] (am_mk I L, 0, 0)
    obtain ⟨hA, hB⟩ := h
    refine ar_b0 am_c_le (t := 46) (q := 44) rfl rfl rfl (fun c_7 => ?_) (fun c_7 => ?_)
    · have h := hA c_7
      clear hA hB
      refine ar_iinc (v := nI (i + 1)) (ls' := [some (.ref 99), some (.int (nI s)), some (.int (nI (i + 1)))]) (q := 49) rfl rfl rfl (nI_1 _) rfl rfl ?_
      refine ar_goto (t := 2) rfl rfl ?_
      exact am_Run.weak (ls' := _) (by exact ⟨rfl, ⟨rfl, ⟨rfl, trivial⟩⟩⟩) h
    · have h := hB c_7
      clear hA hB
      refine ar_iconst (v := 1) (q := 45) rfl rfl rfl ?_
      exact ar_zret rfl rfl (Or.inr rfl) h
theorem r_Rules_lastOfMineAheadOf_0 {d : Nat} {R : am_R} {I : Nat → Nat → Int32} {L : Nat → Nat → Int64} {s : Nat} (h : am_Run am_X0 (am_meth d) 101 R 5 [some (.ref 99), some (.int (nI s)), some (.int (-9 : Int32)), some (.int 0)] [] (am_mk I L, 0, 0)) : am_Run am_X0 (am_meth d) 101 R 0 [some (.ref 99), some (.int (nI s)), none, none] [] (am_mk I L, 0, 0) := by
  refine ar_bipush (v := (-9 : Int32)) (q := 2) rfl rfl rfl ?_
  refine ar_istore_n (j := 2) (ls' := [some (.ref 99), some (.int (nI s)), some (.int (-9 : Int32)), none]) (q := 3) rfl rfl rfl rfl rfl ?_
  refine ar_iconst (v := 0) (q := 4) rfl rfl rfl ?_
  refine ar_istore_n (j := 3) (ls' := [some (.ref 99), some (.int (nI s)), some (.int (-9 : Int32)), some (.int 0)]) (q := 5) rfl rfl rfl rfl rfl ?_
  exact am_Run.weak (ls' := _) (by exact ⟨rfl, ⟨rfl, ⟨rfl, ⟨rfl, trivial⟩⟩⟩⟩) h
theorem r_Rules_lastOfMineAheadOf_5 {d : Nat} {R : am_R} {I : Nat → Nat → Int32} {L : Nat → Nat → Int64} {s : Nat} {last : Int32} {i : Nat} (h : (((nI i) < (I 99 8) → (i < 120 ∧ (∃ j_3 : Nat, j_3 < 60 ∧ I 101 i = nI j_3 ∧ (s < 60 ∧ ((((I 69 j_3) < (I 68 s) → (((last = (-9 : Int32) → (am_Run am_X0 (am_meth d) 101 R 5 [some (.ref 99), some (.int (nI s)), some (.int (I 101 i)), some (.int (nI (i + 1)))] [] (am_mk I L, 0, 0))) ∧ (¬ last = (-9 : Int32) → (∃ j_9 : Nat, j_9 < 60 ∧ last = nI j_9 ∧ ((((I 69 j_3) ≤ (I 69 j_9) → (am_Run am_X0 (am_meth d) 101 R 5 [some (.ref 99), some (.int (nI s)), some (.int last), some (.int (nI (i + 1)))] [] (am_mk I L, 0, 0))) ∧ (¬ (I 69 j_3) ≤ (I 69 j_9) → (am_Run am_X0 (am_meth d) 101 R 5 [some (.ref 99), some (.int (nI s)), some (.int (I 101 i)), some (.int (nI (i + 1)))] [] (am_mk I L, 0, 0)))))))))) ∧ (¬ (I 69 j_3) < (I 68 s) → (am_Run am_X0 (am_meth d) 101 R 5 [some (.ref 99), some (.int (nI s)), some (.int last), some (.int (nI (i + 1)))] [] (am_mk I L, 0, 0))))))))) ∧ (¬ (nI i) < (I 99 8) → (R (some (.int last)) (am_mk I L, 0, 0))))) : am_Run am_X0 (am_meth d) 101 R 5 [some (.ref 99), some (.int (nI s)), some (.int last), some (.int (nI i))] [] (am_mk I L, 0, 0) := by
  refine ar_iload_n (j := 3) (q := 6) rfl rfl rfl rfl ?_
  refine ar_aload_n (j := 0) (q := 7) rfl rfl rfl rfl ?_
  refine ar_getf (v := .int (I 99 8)) (q := 10) rfl rfl mk_99 rfl rfl ?_
  obtain ⟨hA, hB⟩ := h
  refine ar_br am_d_ge (t := 87) (q := 13) rfl rfl rfl (fun c_1 => ?_) (fun c_1 => ?_)
  · have h := hB c_1
    clear hA hB
    refine ar_iload_n (j := 2) (q := 88) rfl rfl rfl rfl ?_
    exact ar_iret rfl rfl h
  · have c_1 := Classical.not_not.mp c_1
    have h := hA c_1
    clear hA hB
    refine ar_aload_n (j := 0) (q := 14) rfl rfl rfl rfl ?_
    refine ar_getf (v := .ref 66) (q := 17) rfl rfl mk_99 rfl rfl ?_
    refine ar_getf (v := .ref 69) (q := 20) rfl rfl mk_66 rfl rfl ?_
    refine ar_aload_n (j := 0) (q := 21) rfl rfl rfl rfl ?_
    refine ar_getf (v := .ref 101) (q := 24) rfl rfl mk_99 rfl rfl ?_
    refine ar_iload_n (j := 3) (q := 25) rfl rfl rfl rfl ?_
    obtain ⟨hx_2, h⟩ := h
    refine ar_iald (v := I 101 i) (q := 26) rfl mk_101 (am_inE rfl hx_2 (by decide)) (am_clE rfl hx_2 (by decide)) rfl ?_
    obtain ⟨j_3, hx_4, hi_5, h⟩ := h
    refine ar_iald (v := I 69 j_3) (q := 27) rfl mk_69 (am_inE hi_5 hx_4 (by decide)) (am_clE hi_5 hx_4 (by decide)) rfl ?_
    refine ar_aload_n (j := 0) (q := 28) rfl rfl rfl rfl ?_
    refine ar_getf (v := .ref 66) (q := 31) rfl rfl mk_99 rfl rfl ?_
    refine ar_getf (v := .ref 68) (q := 34) rfl rfl mk_66 rfl rfl ?_
    refine ar_iload_n (j := 1) (q := 35) rfl rfl rfl rfl ?_
    obtain ⟨hx_6, h⟩ := h
    refine ar_iald (v := I 68 s) (q := 36) rfl mk_68 (am_inE rfl hx_6 (by decide)) (am_clE rfl hx_6 (by decide)) rfl ?_
    obtain ⟨hA, hB⟩ := h
    refine ar_br am_c_lt (t := 42) (q := 39) rfl rfl rfl (fun c_7 => ?_) (fun c_7 => ?_)
    · have h := hA c_7
      clear hA hB
      refine ar_iload_n (j := 2) (q := 43) rfl rfl rfl rfl ?_
      refine ar_bipush (v := (-9 : Int32)) (q := 45) rfl rfl rfl ?_
      obtain ⟨hA, hB⟩ := h
      refine ar_br am_c_eq (t := 74) (q := 48) rfl rfl rfl (fun c_8 => ?_) (fun c_8 => ?_)
      · have h := hA c_8
        clear hA hB
        refine ar_aload_n (j := 0) (q := 75) rfl rfl rfl rfl ?_
        refine ar_getf (v := .ref 101) (q := 78) rfl rfl mk_99 rfl rfl ?_
        refine ar_iload_n (j := 3) (q := 79) rfl rfl rfl rfl ?_
        refine ar_iald (v := I 101 i) (q := 80) rfl mk_101 (am_inE rfl hx_2 (by decide)) (am_clE rfl hx_2 (by decide)) rfl ?_
        refine ar_istore_n (j := 2) (ls' := [some (.ref 99), some (.int (nI s)), some (.int (I 101 i)), some (.int (nI i))]) (q := 81) rfl rfl rfl rfl rfl ?_
        refine ar_iinc (v := nI (i + 1)) (ls' := [some (.ref 99), some (.int (nI s)), some (.int (I 101 i)), some (.int (nI (i + 1)))]) (q := 84) rfl rfl rfl (nI_1 _) rfl rfl ?_
        refine ar_goto (t := 5) rfl rfl ?_
        exact am_Run.weak (ls' := _) (by exact ⟨rfl, ⟨rfl, ⟨rfl, ⟨rfl, trivial⟩⟩⟩⟩) h
      · have h := hB c_8
        clear hA hB
        refine ar_aload_n (j := 0) (q := 49) rfl rfl rfl rfl ?_
        refine ar_getf (v := .ref 66) (q := 52) rfl rfl mk_99 rfl rfl ?_
        refine ar_getf (v := .ref 69) (q := 55) rfl rfl mk_66 rfl rfl ?_
        refine ar_aload_n (j := 0) (q := 56) rfl rfl rfl rfl ?_
        refine ar_getf (v := .ref 101) (q := 59) rfl rfl mk_99 rfl rfl ?_
        refine ar_iload_n (j := 3) (q := 60) rfl rfl rfl rfl ?_
        refine ar_iald (v := I 101 i) (q := 61) rfl mk_101 (am_inE rfl hx_2 (by decide)) (am_clE rfl hx_2 (by decide)) rfl ?_
        refine ar_iald (v := I 69 j_3) (q := 62) rfl mk_69 (am_inE hi_5 hx_4 (by decide)) (am_clE hi_5 hx_4 (by decide)) rfl ?_
        refine ar_aload_n (j := 0) (q := 63) rfl rfl rfl rfl ?_
        refine ar_getf (v := .ref 66) (q := 66) rfl rfl mk_99 rfl rfl ?_
        refine ar_getf (v := .ref 69) (q := 69) rfl rfl mk_66 rfl rfl ?_
        refine ar_iload_n (j := 2) (q := 70) rfl rfl rfl rfl ?_
        obtain ⟨j_9, hx_10, hi_11, h⟩ := h
        refine ar_iald (v := I 69 j_9) (q := 71) rfl mk_69 (am_inE hi_11 hx_10 (by decide)) (am_clE hi_11 hx_10 (by decide)) rfl ?_
        obtain ⟨hA, hB⟩ := h
        refine ar_br am_c_le (t := 81) (q := 74) rfl rfl rfl (fun c_12 => ?_) (fun c_12 => ?_)
        · have h := hA c_12
          clear hA hB
          refine ar_iinc (v := nI (i + 1)) (ls' := [some (.ref 99), some (.int (nI s)), some (.int last), some (.int (nI (i + 1)))]) (q := 84) rfl rfl rfl (nI_1 _) rfl rfl ?_
          refine ar_goto (t := 5) rfl rfl ?_
          exact am_Run.weak (ls' := _) (by exact ⟨rfl, ⟨rfl, ⟨rfl, ⟨rfl, trivial⟩⟩⟩⟩) h
        · have h := hB c_12
          clear hA hB
          refine ar_aload_n (j := 0) (q := 75) rfl rfl rfl rfl ?_
          refine ar_getf (v := .ref 101) (q := 78) rfl rfl mk_99 rfl rfl ?_
          refine ar_iload_n (j := 3) (q := 79) rfl rfl rfl rfl ?_
          refine ar_iald (v := I 101 i) (q := 80) rfl mk_101 (am_inE rfl hx_2 (by decide)) (am_clE rfl hx_2 (by decide)) rfl ?_
          refine ar_istore_n (j := 2) (ls' := [some (.ref 99), some (.int (nI s)), some (.int (I 101 i)), some (.int (nI i))]) (q := 81) rfl rfl rfl rfl rfl ?_
          refine ar_iinc (v := nI (i + 1)) (ls' := [some (.ref 99), some (.int (nI s)), some (.int (I 101 i)), some (.int (nI (i + 1)))]) (q := 84) rfl rfl rfl (nI_1 _) rfl rfl ?_
          refine ar_goto (t := 5) rfl rfl ?_
          exact am_Run.weak (ls' := _) (by exact ⟨rfl, ⟨rfl, ⟨rfl, ⟨rfl, trivial⟩⟩⟩⟩) h
    · have h := hB c_7
      clear hA hB
      refine ar_goto (t := 81) rfl rfl ?_
      refine ar_iinc (v := nI (i + 1)) (ls' := [some (.ref 99), some (.int (nI s)), some (.int last), some (.int (nI (i + 1)))]) (q := 84) rfl rfl rfl (nI_1 _) rfl rfl ?_
      refine ar_goto (t := 5) rfl rfl ?_
      exact am_Run.weak (ls' := _) (by exact ⟨rfl, ⟨rfl, ⟨rfl, ⟨rfl, trivial⟩⟩⟩⟩) h
theorem r_Rules_firstOfMineBehind_0 {d : Nat} {R : am_R} {I : Nat → Nat → Int32} {L : Nat → Nat → Int64} {s : Nat} (h : am_Run am_X0 (am_meth d) 103 R 5 [some (.ref 99), some (.int (nI s)), some (.int (-9 : Int32)), some (.int 0)] [] (am_mk I L, 0, 0)) : am_Run am_X0 (am_meth d) 103 R 0 [some (.ref 99), some (.int (nI s)), none, none] [] (am_mk I L, 0, 0) := by
  refine ar_bipush (v := (-9 : Int32)) (q := 2) rfl rfl rfl ?_
  refine ar_istore_n (j := 2) (ls' := [some (.ref 99), some (.int (nI s)), some (.int (-9 : Int32)), none]) (q := 3) rfl rfl rfl rfl rfl ?_
  refine ar_iconst (v := 0) (q := 4) rfl rfl rfl ?_
  refine ar_istore_n (j := 3) (ls' := [some (.ref 99), some (.int (nI s)), some (.int (-9 : Int32)), some (.int 0)]) (q := 5) rfl rfl rfl rfl rfl ?_
  exact am_Run.weak (ls' := _) (by exact ⟨rfl, ⟨rfl, ⟨rfl, ⟨rfl, trivial⟩⟩⟩⟩) h
theorem r_Rules_firstOfMineBehind_5 {d : Nat} {R : am_R} {I : Nat → Nat → Int32} {L : Nat → Nat → Int64} {s : Nat} {last : Int32} {i : Nat} (h : (((nI i) < (I 99 8) → (i < 120 ∧ (∃ j_3 : Nat, j_3 < 60 ∧ I 101 i = nI j_3 ∧ (s < 60 ∧ ((((I 68 j_3) ≤ (I 69 s) → (am_Run am_X0 (am_meth d) 103 R 5 [some (.ref 99), some (.int (nI s)), some (.int last), some (.int (nI (i + 1)))] [] (am_mk I L, 0, 0))) ∧ (¬ (I 68 j_3) ≤ (I 69 s) → (((last = (-9 : Int32) → (am_Run am_X0 (am_meth d) 103 R 5 [some (.ref 99), some (.int (nI s)), some (.int (I 101 i)), some (.int (nI (i + 1)))] [] (am_mk I L, 0, 0))) ∧ (¬ last = (-9 : Int32) → (∃ j_9 : Nat, j_9 < 60 ∧ last = nI j_9 ∧ ((((I 68 j_3) < (I 68 j_9) → (am_Run am_X0 (am_meth d) 103 R 5 [some (.ref 99), some (.int (nI s)), some (.int (I 101 i)), some (.int (nI (i + 1)))] [] (am_mk I L, 0, 0))) ∧ (¬ (I 68 j_3) < (I 68 j_9) → (am_Run am_X0 (am_meth d) 103 R 5 [some (.ref 99), some (.int (nI s)), some (.int last), some (.int (nI (i + 1)))] [] (am_mk I L, 0, 0)))))))))))))))) ∧ (¬ (nI i) < (I 99 8) → (R (some (.int last)) (am_mk I L, 0, 0))))) : am_Run am_X0 (am_meth d) 103 R 5 [some (.ref 99), some (.int (nI s)), some (.int last), some (.int (nI i))] [] (am_mk I L, 0, 0) := by
  refine ar_iload_n (j := 3) (q := 6) rfl rfl rfl rfl ?_
  refine ar_aload_n (j := 0) (q := 7) rfl rfl rfl rfl ?_
  refine ar_getf (v := .int (I 99 8)) (q := 10) rfl rfl mk_99 rfl rfl ?_
  obtain ⟨hA, hB⟩ := h
  refine ar_br am_d_ge (t := 87) (q := 13) rfl rfl rfl (fun c_1 => ?_) (fun c_1 => ?_)
  · have h := hB c_1
    clear hA hB
    refine ar_iload_n (j := 2) (q := 88) rfl rfl rfl rfl ?_
    exact ar_iret rfl rfl h
  · have c_1 := Classical.not_not.mp c_1
    have h := hA c_1
    clear hA hB
    refine ar_aload_n (j := 0) (q := 14) rfl rfl rfl rfl ?_
    refine ar_getf (v := .ref 66) (q := 17) rfl rfl mk_99 rfl rfl ?_
    refine ar_getf (v := .ref 68) (q := 20) rfl rfl mk_66 rfl rfl ?_
    refine ar_aload_n (j := 0) (q := 21) rfl rfl rfl rfl ?_
    refine ar_getf (v := .ref 101) (q := 24) rfl rfl mk_99 rfl rfl ?_
    refine ar_iload_n (j := 3) (q := 25) rfl rfl rfl rfl ?_
    obtain ⟨hx_2, h⟩ := h
    refine ar_iald (v := I 101 i) (q := 26) rfl mk_101 (am_inE rfl hx_2 (by decide)) (am_clE rfl hx_2 (by decide)) rfl ?_
    obtain ⟨j_3, hx_4, hi_5, h⟩ := h
    refine ar_iald (v := I 68 j_3) (q := 27) rfl mk_68 (am_inE hi_5 hx_4 (by decide)) (am_clE hi_5 hx_4 (by decide)) rfl ?_
    refine ar_aload_n (j := 0) (q := 28) rfl rfl rfl rfl ?_
    refine ar_getf (v := .ref 66) (q := 31) rfl rfl mk_99 rfl rfl ?_
    refine ar_getf (v := .ref 69) (q := 34) rfl rfl mk_66 rfl rfl ?_
    refine ar_iload_n (j := 1) (q := 35) rfl rfl rfl rfl ?_
    obtain ⟨hx_6, h⟩ := h
    refine ar_iald (v := I 69 s) (q := 36) rfl mk_69 (am_inE rfl hx_6 (by decide)) (am_clE rfl hx_6 (by decide)) rfl ?_
    obtain ⟨hA, hB⟩ := h
    refine ar_br am_d_gt (t := 42) (q := 39) rfl rfl rfl (fun c_7 => ?_) (fun c_7 => ?_)
    · have h := hB c_7
      clear hA hB
      refine ar_iload_n (j := 2) (q := 43) rfl rfl rfl rfl ?_
      refine ar_bipush (v := (-9 : Int32)) (q := 45) rfl rfl rfl ?_
      obtain ⟨hA, hB⟩ := h
      refine ar_br am_c_eq (t := 74) (q := 48) rfl rfl rfl (fun c_8 => ?_) (fun c_8 => ?_)
      · have h := hA c_8
        clear hA hB
        refine ar_aload_n (j := 0) (q := 75) rfl rfl rfl rfl ?_
        refine ar_getf (v := .ref 101) (q := 78) rfl rfl mk_99 rfl rfl ?_
        refine ar_iload_n (j := 3) (q := 79) rfl rfl rfl rfl ?_
        refine ar_iald (v := I 101 i) (q := 80) rfl mk_101 (am_inE rfl hx_2 (by decide)) (am_clE rfl hx_2 (by decide)) rfl ?_
        refine ar_istore_n (j := 2) (ls' := [some (.ref 99), some (.int (nI s)), some (.int (I 101 i)), some (.int (nI i))]) (q := 81) rfl rfl rfl rfl rfl ?_
        refine ar_iinc (v := nI (i + 1)) (ls' := [some (.ref 99), some (.int (nI s)), some (.int (I 101 i)), some (.int (nI (i + 1)))]) (q := 84) rfl rfl rfl (nI_1 _) rfl rfl ?_
        refine ar_goto (t := 5) rfl rfl ?_
        exact am_Run.weak (ls' := _) (by exact ⟨rfl, ⟨rfl, ⟨rfl, ⟨rfl, trivial⟩⟩⟩⟩) h
      · have h := hB c_8
        clear hA hB
        refine ar_aload_n (j := 0) (q := 49) rfl rfl rfl rfl ?_
        refine ar_getf (v := .ref 66) (q := 52) rfl rfl mk_99 rfl rfl ?_
        refine ar_getf (v := .ref 68) (q := 55) rfl rfl mk_66 rfl rfl ?_
        refine ar_aload_n (j := 0) (q := 56) rfl rfl rfl rfl ?_
        refine ar_getf (v := .ref 101) (q := 59) rfl rfl mk_99 rfl rfl ?_
        refine ar_iload_n (j := 3) (q := 60) rfl rfl rfl rfl ?_
        refine ar_iald (v := I 101 i) (q := 61) rfl mk_101 (am_inE rfl hx_2 (by decide)) (am_clE rfl hx_2 (by decide)) rfl ?_
        refine ar_iald (v := I 68 j_3) (q := 62) rfl mk_68 (am_inE hi_5 hx_4 (by decide)) (am_clE hi_5 hx_4 (by decide)) rfl ?_
        refine ar_aload_n (j := 0) (q := 63) rfl rfl rfl rfl ?_
        refine ar_getf (v := .ref 66) (q := 66) rfl rfl mk_99 rfl rfl ?_
        refine ar_getf (v := .ref 68) (q := 69) rfl rfl mk_66 rfl rfl ?_
        refine ar_iload_n (j := 2) (q := 70) rfl rfl rfl rfl ?_
        obtain ⟨j_9, hx_10, hi_11, h⟩ := h
        refine ar_iald (v := I 68 j_9) (q := 71) rfl mk_68 (am_inE hi_11 hx_10 (by decide)) (am_clE hi_11 hx_10 (by decide)) rfl ?_
        obtain ⟨hA, hB⟩ := h
        refine ar_br am_d_ge (t := 81) (q := 74) rfl rfl rfl (fun c_12 => ?_) (fun c_12 => ?_)
        · have h := hB c_12
          clear hA hB
          refine ar_iinc (v := nI (i + 1)) (ls' := [some (.ref 99), some (.int (nI s)), some (.int last), some (.int (nI (i + 1)))]) (q := 84) rfl rfl rfl (nI_1 _) rfl rfl ?_
          refine ar_goto (t := 5) rfl rfl ?_
          exact am_Run.weak (ls' := _) (by exact ⟨rfl, ⟨rfl, ⟨rfl, ⟨rfl, trivial⟩⟩⟩⟩) h
        · have c_12 := Classical.not_not.mp c_12
          have h := hA c_12
          clear hA hB
          refine ar_aload_n (j := 0) (q := 75) rfl rfl rfl rfl ?_
          refine ar_getf (v := .ref 101) (q := 78) rfl rfl mk_99 rfl rfl ?_
          refine ar_iload_n (j := 3) (q := 79) rfl rfl rfl rfl ?_
          refine ar_iald (v := I 101 i) (q := 80) rfl mk_101 (am_inE rfl hx_2 (by decide)) (am_clE rfl hx_2 (by decide)) rfl ?_
          refine ar_istore_n (j := 2) (ls' := [some (.ref 99), some (.int (nI s)), some (.int (I 101 i)), some (.int (nI i))]) (q := 81) rfl rfl rfl rfl rfl ?_
          refine ar_iinc (v := nI (i + 1)) (ls' := [some (.ref 99), some (.int (nI s)), some (.int (I 101 i)), some (.int (nI (i + 1)))]) (q := 84) rfl rfl rfl (nI_1 _) rfl rfl ?_
          refine ar_goto (t := 5) rfl rfl ?_
          exact am_Run.weak (ls' := _) (by exact ⟨rfl, ⟨rfl, ⟨rfl, ⟨rfl, trivial⟩⟩⟩⟩) h
    · have c_7 := Classical.not_not.mp c_7
      have h := hA c_7
      clear hA hB
      refine ar_goto (t := 81) rfl rfl ?_
      refine ar_iinc (v := nI (i + 1)) (ls' := [some (.ref 99), some (.int (nI s)), some (.int last), some (.int (nI (i + 1)))]) (q := 84) rfl rfl rfl (nI_1 _) rfl rfl ?_
      refine ar_goto (t := 5) rfl rfl ?_
      exact am_Run.weak (ls' := _) (by exact ⟨rfl, ⟨rfl, ⟨rfl, ⟨rfl, trivial⟩⟩⟩⟩) h
theorem r_Rules_daysInLand_0 {d : Nat} (hd : 2 ≤ d) {R : am_R} {I : Nat → Nat → Int32} {L : Nat → Nat → Int64} {s : Nat} {a : Int32} {b : Int32} (h : (s < 60) ∧ ((am_ix I 67 s 20) ∧ ((am_ix I 43 (am_n I 67 s) 10) ∧ ((s < 60) ∧ (am_Run am_X0 (am_meth d) 106 R 22 [some (.ref 99), none, some (.int a), some (.int b), some (.int (I 3 (am_n I 43 (am_n I 67 s)))), some (.int (am_dw (I 68 s) (I 69 s) a b)), some (.int 0)] [] (am_mk I L, 0, 0)))))) : am_Run am_X0 (am_meth d) 106 R 0 [some (.ref 99), some (.int (nI s)), some (.int a), some (.int b), none, none, none] [] (am_mk I L, 0, 0) := by
  refine ar_aload_n (j := 0) (q := 1) rfl rfl rfl rfl ?_
  refine ar_iload_n (j := 1) (q := 2) rfl rfl rfl rfl ?_
  refine ar_invv (as := [.int (nI s)]) (rest := []) (b2 := (0, 0)) (b3 := (0, 0)) (q := 5) rfl rfl rfl rfl mk_99 rfl rfl rfl rfl rfl ?_
  obtain ⟨hp_1, h⟩ := h
  obtain ⟨hp_2, h⟩ := h
  obtain ⟨hp_3, h⟩ := h
  refine ok_Ru_landOf (by omega) rfl hp_1 hp_2 hp_3 ?_
  show am_Run am_X0 (am_meth d) 106 R 5 [some (.ref 99), some (.int (nI s)), some (.int a), some (.int b), none, none, none] [.int (I 3 (am_n I 43 (am_n I 67 s)))] (am_mk I L, 0, 0)
  refine ar_istore (ls' := [some (.ref 99), some (.int (nI s)), some (.int a), some (.int b), some (.int (I 3 (am_n I 43 (am_n I 67 s)))), none, none]) (q := 7) rfl rfl rfl rfl ?_
  refine ar_aload_n (j := 0) (q := 8) rfl rfl rfl rfl ?_
  refine ar_getf (v := .ref 66) (q := 11) rfl rfl mk_99 rfl rfl ?_
  refine ar_iload_n (j := 1) (q := 12) rfl rfl rfl rfl ?_
  refine ar_iload_n (j := 2) (q := 13) rfl rfl rfl rfl ?_
  refine ar_iload_n (j := 3) (q := 14) rfl rfl rfl rfl ?_
  refine ar_invv (as := [.int (nI s), .int a, .int b]) (rest := []) (b2 := (0, 0)) (b3 := (0, 0)) (q := 17) rfl rfl rfl rfl mk_66 rfl rfl rfl rfl rfl ?_
  obtain ⟨hp_4, h⟩ := h
  refine ok_St_daysWithin (by omega) rfl hp_4 ?_
  show am_Run am_X0 (am_meth d) 106 R 17 [some (.ref 99), some (.int (nI s)), some (.int a), some (.int b), some (.int (I 3 (am_n I 43 (am_n I 67 s)))), none, none] [.int (am_dw (I 68 s) (I 69 s) a b)] (am_mk I L, 0, 0)
  refine ar_istore (ls' := [some (.ref 99), some (.int (nI s)), some (.int a), some (.int b), some (.int (I 3 (am_n I 43 (am_n I 67 s)))), some (.int (am_dw (I 68 s) (I 69 s) a b)), none]) (q := 19) rfl rfl rfl rfl ?_
  refine ar_iconst (v := 0) (q := 20) rfl rfl rfl ?_
  refine ar_istore (ls' := [some (.ref 99), some (.int (nI s)), some (.int a), some (.int b), some (.int (I 3 (am_n I 43 (am_n I 67 s)))), some (.int (am_dw (I 68 s) (I 69 s) a b)), some (.int 0)]) (q := 22) rfl rfl rfl rfl ?_
  exact am_Run.weak (ls' := _) (by exact ⟨rfl, ⟨rfl, ⟨rfl, ⟨rfl, ⟨rfl, ⟨rfl, trivial⟩⟩⟩⟩⟩⟩) h
theorem r_Rules_daysInLand_22 {d : Nat} (hd : 2 ≤ d) {R : am_R} {I : Nat → Nat → Int32} {L : Nat → Nat → Int64} {a : Int32} {b : Int32} {l : Int32} {sum : Int32} {i : Nat} (h : (((nI i) < (I 99 8) → (i < 120 ∧ (∃ j_3 : Nat, I 101 i = nI j_3 ∧ ((j_3 < 60) ∧ ((am_ix I 67 j_3 20) ∧ ((am_ix I 43 (am_n I 67 j_3) 10) ∧ ((((I 3 (am_n I 43 (am_n I 67 j_3))) = l → (∃ j_9 : Nat, I 101 i = nI j_9 ∧ ((j_9 < 60) ∧ (am_Run am_X0 (am_meth d) 106 R 22 [some (.ref 99), none, some (.int a), some (.int b), some (.int l), some (.int (sum + (am_dw (I 68 j_9) (I 69 j_9) a b))), some (.int (nI (i + 1)))] [] (am_mk I L, 0, 0))))) ∧ (¬ (I 3 (am_n I 43 (am_n I 67 j_3))) = l → (am_Run am_X0 (am_meth d) 106 R 22 [some (.ref 99), none, some (.int a), some (.int b), some (.int l), some (.int sum), some (.int (nI (i + 1)))] [] (am_mk I L, 0, 0))))))))))) ∧ (¬ (nI i) < (I 99 8) → (R (some (.int sum)) (am_mk I L, 0, 0))))) : am_Run am_X0 (am_meth d) 106 R 22 [some (.ref 99), none, some (.int a), some (.int b), some (.int l), some (.int sum), some (.int (nI i))] [] (am_mk I L, 0, 0) := by
  refine ar_iload (q := 24) rfl rfl rfl ?_
  refine ar_aload_n (j := 0) (q := 25) rfl rfl rfl rfl ?_
  refine ar_getf (v := .int (I 99 8)) (q := 28) rfl rfl mk_99 rfl rfl ?_
  obtain ⟨hA, hB⟩ := h
  refine ar_br am_d_ge (t := 74) (q := 31) rfl rfl rfl (fun c_1 => ?_) (fun c_1 => ?_)
  · have h := hB c_1
    clear hA hB
    refine ar_iload (q := 76) rfl rfl rfl ?_
    exact ar_iret rfl rfl h
  · have c_1 := Classical.not_not.mp c_1
    have h := hA c_1
    clear hA hB
    refine ar_aload_n (j := 0) (q := 32) rfl rfl rfl rfl ?_
    refine ar_aload_n (j := 0) (q := 33) rfl rfl rfl rfl ?_
    refine ar_getf (v := .ref 101) (q := 36) rfl rfl mk_99 rfl rfl ?_
    refine ar_iload (q := 38) rfl rfl rfl ?_
    obtain ⟨hx_2, h⟩ := h
    refine ar_iald (v := I 101 i) (q := 39) rfl mk_101 (am_inE rfl hx_2 (by decide)) (am_clE rfl hx_2 (by decide)) rfl ?_
    refine ar_invv (as := [.int (I 101 i)]) (rest := []) (b2 := (0, 0)) (b3 := (0, 0)) (q := 42) rfl rfl rfl rfl mk_99 rfl rfl rfl rfl rfl ?_
    obtain ⟨j_3, hi_4, h⟩ := h
    obtain ⟨hp_5, h⟩ := h
    obtain ⟨hp_6, h⟩ := h
    obtain ⟨hp_7, h⟩ := h
    refine ok_Ru_landOf (by omega) hi_4 hp_5 hp_6 hp_7 ?_
    show am_Run am_X0 (am_meth d) 106 R 42 [some (.ref 99), none, some (.int a), some (.int b), some (.int l), some (.int sum), some (.int (nI i))] [.int (I 3 (am_n I 43 (am_n I 67 j_3)))] (am_mk I L, 0, 0)
    refine ar_iload (q := 44) rfl rfl rfl ?_
    obtain ⟨hA, hB⟩ := h
    refine ar_br am_c_ne (t := 68) (q := 47) rfl rfl rfl (fun c_8 => ?_) (fun c_8 => ?_)
    · have h := hB c_8
      clear hA hB
      refine ar_iinc (v := nI (i + 1)) (ls' := [some (.ref 99), none, some (.int a), some (.int b), some (.int l), some (.int sum), some (.int (nI (i + 1)))]) (q := 71) rfl rfl rfl (nI_1 _) rfl rfl ?_
      refine ar_goto (t := 22) rfl rfl ?_
      exact am_Run.weak (ls' := _) (by exact ⟨rfl, ⟨rfl, ⟨rfl, ⟨rfl, ⟨rfl, ⟨rfl, trivial⟩⟩⟩⟩⟩⟩) h
    · have c_8 := Classical.not_not.mp c_8
      have h := hA c_8
      clear hA hB
      refine ar_iload (q := 49) rfl rfl rfl ?_
      refine ar_aload_n (j := 0) (q := 50) rfl rfl rfl rfl ?_
      refine ar_getf (v := .ref 66) (q := 53) rfl rfl mk_99 rfl rfl ?_
      refine ar_aload_n (j := 0) (q := 54) rfl rfl rfl rfl ?_
      refine ar_getf (v := .ref 101) (q := 57) rfl rfl mk_99 rfl rfl ?_
      refine ar_iload (q := 59) rfl rfl rfl ?_
      refine ar_iald (v := I 101 i) (q := 60) rfl mk_101 (am_inE rfl hx_2 (by decide)) (am_clE rfl hx_2 (by decide)) rfl ?_
      refine ar_iload_n (j := 2) (q := 61) rfl rfl rfl rfl ?_
      refine ar_iload_n (j := 3) (q := 62) rfl rfl rfl rfl ?_
      refine ar_invv (as := [.int (I 101 i), .int a, .int b]) (rest := [.int sum]) (b2 := (0, 0)) (b3 := (0, 0)) (q := 65) rfl rfl rfl rfl mk_66 rfl rfl rfl rfl rfl ?_
      obtain ⟨j_9, hi_10, h⟩ := h
      obtain ⟨hp_11, h⟩ := h
      refine ok_St_daysWithin (by omega) hi_10 hp_11 ?_
      show am_Run am_X0 (am_meth d) 106 R 65 [some (.ref 99), none, some (.int a), some (.int b), some (.int l), some (.int sum), some (.int (nI i))] [.int (am_dw (I 68 j_9) (I 69 j_9) a b), .int sum] (am_mk I L, 0, 0)
      refine ar_ib (i := .iadd) (z := sum + (am_dw (I 68 j_9) (I 69 j_9) a b)) (q := 66) rfl rfl rfl rfl rfl ?_
      refine ar_istore (ls' := [some (.ref 99), none, some (.int a), some (.int b), some (.int l), some (.int (sum + (am_dw (I 68 j_9) (I 69 j_9) a b))), some (.int (nI i))]) (q := 68) rfl rfl rfl rfl ?_
      refine ar_iinc (v := nI (i + 1)) (ls' := [some (.ref 99), none, some (.int a), some (.int b), some (.int l), some (.int (sum + (am_dw (I 68 j_9) (I 69 j_9) a b))), some (.int (nI (i + 1)))]) (q := 71) rfl rfl rfl (nI_1 _) rfl rfl ?_
      refine ar_goto (t := 22) rfl rfl ?_
      exact am_Run.weak (ls' := _) (by exact ⟨rfl, ⟨rfl, ⟨rfl, ⟨rfl, ⟨rfl, ⟨rfl, trivial⟩⟩⟩⟩⟩⟩) h
theorem r_Rules_isTooLongInLand_0 {d : Nat} (hd : 1 ≤ d) {R : am_R} {I : Nat → Nat → Int32} {L : Nat → Nat → Int64} {s : Nat} (h : (s < 60) ∧ ((am_ix I 67 s 20) ∧ ((am_ix I 43 (am_n I 67 s) 10) ∧ (∃ j_4 : Nat, j_4 < 5 ∧ I 3 (am_n I 43 (am_n I 67 s)) = nI j_4 ∧ (am_meth d 106 [.ref 99, .int (nI s), .int 0, .int 1500] (am_mk I L, 0, 0) (am_ri (fun z_7 I_8 L_9 => ((z_7 ≤ (I 4 j_4) → (R (some (.int 0)) (am_mk I_8 L_9, 0, 0))) ∧ (¬ z_7 ≤ (I 4 j_4) → (s < 60 ∧ (am_meth d 106 [.ref 99, .int (nI s), .int (I_8 68 s), .int (((I_8 68 s) + 180) - 1)] (am_mk I_8 L_9, 0, 0) (am_ri (fun z_12 I_13 L_14 => ((z_12 ≤ (I 4 j_4) → (am_Run am_X0 (am_meth d) 104 R 66 [some (.ref 99), some (.int (nI s)), some (.int (I 4 j_4)), some (.int 0), none] [] (am_mk I_13 L_14, 0, 0))) ∧ (¬ z_12 ≤ (I 4 j_4) → (R (some (.int 1)) (am_mk I_13 L_14, 0, 0))))))))))))))))) : am_Run am_X0 (am_meth d) 104 R 0 [some (.ref 99), some (.int (nI s)), none, none, none] [] (am_mk I L, 0, 0) := by
  refine ar_aload_n (j := 0) (q := 1) rfl rfl rfl rfl ?_
  refine ar_getf (v := .ref 2) (q := 4) rfl rfl mk_99 rfl rfl ?_
  refine ar_getf (v := .ref 4) (q := 7) rfl rfl mk_2 rfl rfl ?_
  refine ar_aload_n (j := 0) (q := 8) rfl rfl rfl rfl ?_
  refine ar_iload_n (j := 1) (q := 9) rfl rfl rfl rfl ?_
  refine ar_invv (as := [.int (nI s)]) (rest := [.ref 4]) (b2 := (0, 0)) (b3 := (0, 0)) (q := 12) rfl rfl rfl rfl mk_99 rfl rfl rfl rfl rfl ?_
  obtain ⟨hp_1, h⟩ := h
  obtain ⟨hp_2, h⟩ := h
  obtain ⟨hp_3, h⟩ := h
  refine ok_Ru_landOf (by omega) rfl hp_1 hp_2 hp_3 ?_
  show am_Run am_X0 (am_meth d) 104 R 12 [some (.ref 99), some (.int (nI s)), none, none, none] [.int (I 3 (am_n I 43 (am_n I 67 s))), .ref 4] (am_mk I L, 0, 0)
  obtain ⟨j_4, hx_5, hi_6, h⟩ := h
  refine ar_iald (v := I 4 j_4) (q := 13) rfl mk_4 (am_inE hi_6 hx_5 (by decide)) (am_clE hi_6 hx_5 (by decide)) rfl ?_
  refine ar_istore_n (j := 2) (ls' := [some (.ref 99), some (.int (nI s)), some (.int (I 4 j_4)), none, none]) (q := 14) rfl rfl rfl rfl rfl ?_
  refine ar_aload_n (j := 0) (q := 15) rfl rfl rfl rfl ?_
  refine ar_iload_n (j := 1) (q := 16) rfl rfl rfl rfl ?_
  refine ar_iconst (v := 0) (q := 17) rfl rfl rfl ?_
  refine ar_sipush (v := 1500) (q := 20) rfl rfl rfl ?_
  refine ar_invv (as := [.int (nI s), .int 0, .int 1500]) (rest := []) (b2 := (0, 0)) (b3 := (0, 0)) (q := 23) rfl rfl rfl rfl mk_99 rfl rfl rfl rfl rfl ?_
  refine am_meth_mono d _ _ _ _ _ (fun v9 m9 h9 => ?_) h
  obtain ⟨z_7, I_8, L_9, rfl, rfl, h⟩ := h9
  show am_Run am_X0 (am_meth d) 104 R 23 [some (.ref 99), some (.int (nI s)), some (.int (I 4 j_4)), none, none] [.int z_7] (am_mk I_8 L_9, 0, 0)
  refine ar_iload_n (j := 2) (q := 24) rfl rfl rfl rfl ?_
  obtain ⟨hA, hB⟩ := h
  refine ar_br am_d_gt (t := 29) (q := 27) rfl rfl rfl (fun c_10 => ?_) (fun c_10 => ?_)
  · have h := hB c_10
    clear hA hB
    refine ar_aload_n (j := 0) (q := 30) rfl rfl rfl rfl ?_
    refine ar_iload_n (j := 1) (q := 31) rfl rfl rfl rfl ?_
    refine ar_aload_n (j := 0) (q := 32) rfl rfl rfl rfl ?_
    refine ar_getf (v := .ref 66) (q := 35) rfl rfl mk_99 rfl rfl ?_
    refine ar_getf (v := .ref 68) (q := 38) rfl rfl mk_66 rfl rfl ?_
    refine ar_iload_n (j := 1) (q := 39) rfl rfl rfl rfl ?_
    obtain ⟨hx_11, h⟩ := h
    refine ar_iald (v := I_8 68 s) (q := 40) rfl mk_68 (am_inE rfl hx_11 (by decide)) (am_clE rfl hx_11 (by decide)) rfl ?_
    refine ar_aload_n (j := 0) (q := 41) rfl rfl rfl rfl ?_
    refine ar_getf (v := .ref 66) (q := 44) rfl rfl mk_99 rfl rfl ?_
    refine ar_getf (v := .ref 68) (q := 47) rfl rfl mk_66 rfl rfl ?_
    refine ar_iload_n (j := 1) (q := 48) rfl rfl rfl rfl ?_
    refine ar_iald (v := I_8 68 s) (q := 49) rfl mk_68 (am_inE rfl hx_11 (by decide)) (am_clE rfl hx_11 (by decide)) rfl ?_
    refine ar_sipush (v := 180) (q := 52) rfl rfl rfl ?_
    refine ar_ib (i := .iadd) (z := (I_8 68 s) + 180) (q := 53) rfl rfl rfl rfl rfl ?_
    refine ar_iconst (v := 1) (q := 54) rfl rfl rfl ?_
    refine ar_ib (i := .isub) (z := ((I_8 68 s) + 180) - 1) (q := 55) rfl rfl rfl rfl rfl ?_
    refine ar_invv (as := [.int (nI s), .int (I_8 68 s), .int (((I_8 68 s) + 180) - 1)]) (rest := []) (b2 := (0, 0)) (b3 := (0, 0)) (q := 58) rfl rfl rfl rfl mk_99 rfl rfl rfl rfl rfl ?_
    refine am_meth_mono d _ _ _ _ _ (fun v9 m9 h9 => ?_) h
    obtain ⟨z_12, I_13, L_14, rfl, rfl, h⟩ := h9
    show am_Run am_X0 (am_meth d) 104 R 58 [some (.ref 99), some (.int (nI s)), some (.int (I 4 j_4)), none, none] [.int z_12] (am_mk I_13 L_14, 0, 0)
    refine ar_iload_n (j := 2) (q := 59) rfl rfl rfl rfl ?_
    obtain ⟨hA, hB⟩ := h
    refine ar_br am_c_le (t := 64) (q := 62) rfl rfl rfl (fun c_15 => ?_) (fun c_15 => ?_)
    · have h := hA c_15
      clear hA hB
      refine ar_iconst (v := 0) (q := 65) rfl rfl rfl ?_
      refine ar_istore_n (j := 3) (ls' := [some (.ref 99), some (.int (nI s)), some (.int (I 4 j_4)), some (.int 0), none]) (q := 66) rfl rfl rfl rfl rfl ?_
      exact am_Run.weak (ls' := _) (by exact ⟨rfl, ⟨rfl, ⟨rfl, ⟨rfl, trivial⟩⟩⟩⟩) h
    · have h := hB c_15
      clear hA hB
      refine ar_iconst (v := 1) (q := 63) rfl rfl rfl ?_
      exact ar_zret rfl rfl (Or.inr rfl) h
  · have c_10 := Classical.not_not.mp c_10
    have h := hA c_10
    clear hA hB
    refine ar_iconst (v := 0) (q := 28) rfl rfl rfl ?_
    exact ar_zret rfl rfl (Or.inl rfl) h
theorem r_Rules_isTooLongInLand_66 {d : Nat} {R : am_R} {I : Nat → Nat → Int32} {L : Nat → Nat → Int64} {s : Nat} {lim : Int32} {i : Nat} (h : (((nI i) < (I 99 8) → (i < 120 ∧ (∃ j_3 : Nat, j_3 < 60 ∧ I 101 i = nI j_3 ∧ (am_meth d 106 [.ref 99, .int (nI s), .int (I 68 j_3), .int (((I 68 j_3) + 180) - 1)] (am_mk I L, 0, 0) (am_ri (fun z_6 I_7 L_8 => ((z_6 ≤ lim → (am_Run am_X0 (am_meth d) 104 R 66 [some (.ref 99), some (.int (nI s)), some (.int lim), some (.int (nI (i + 1))), none] [] (am_mk I_7 L_8, 0, 0))) ∧ (¬ z_6 ≤ lim → (R (some (.int 1)) (am_mk I_7 L_8, 0, 0)))))))))) ∧ (¬ (nI i) < (I 99 8) → (R (some (.int 0)) (am_mk I L, 0, 0))))) : am_Run am_X0 (am_meth d) 104 R 66 [some (.ref 99), some (.int (nI s)), some (.int lim), some (.int (nI i)), none] [] (am_mk I L, 0, 0) := by
  refine ar_iload_n (j := 3) (q := 67) rfl rfl rfl rfl ?_
  refine ar_aload_n (j := 0) (q := 68) rfl rfl rfl rfl ?_
  refine ar_getf (v := .int (I 99 8)) (q := 71) rfl rfl mk_99 rfl rfl ?_
  obtain ⟨hA, hB⟩ := h
  refine ar_br am_d_ge (t := 117) (q := 74) rfl rfl rfl (fun c_1 => ?_) (fun c_1 => ?_)
  · have h := hB c_1
    clear hA hB
    refine ar_iconst (v := 0) (q := 118) rfl rfl rfl ?_
    exact ar_zret rfl rfl (Or.inl rfl) h
  · have c_1 := Classical.not_not.mp c_1
    have h := hA c_1
    clear hA hB
    refine ar_aload_n (j := 0) (q := 75) rfl rfl rfl rfl ?_
    refine ar_getf (v := .ref 66) (q := 78) rfl rfl mk_99 rfl rfl ?_
    refine ar_getf (v := .ref 68) (q := 81) rfl rfl mk_66 rfl rfl ?_
    refine ar_aload_n (j := 0) (q := 82) rfl rfl rfl rfl ?_
    refine ar_getf (v := .ref 101) (q := 85) rfl rfl mk_99 rfl rfl ?_
    refine ar_iload_n (j := 3) (q := 86) rfl rfl rfl rfl ?_
    obtain ⟨hx_2, h⟩ := h
    refine ar_iald (v := I 101 i) (q := 87) rfl mk_101 (am_inE rfl hx_2 (by decide)) (am_clE rfl hx_2 (by decide)) rfl ?_
    obtain ⟨j_3, hx_4, hi_5, h⟩ := h
    refine ar_iald (v := I 68 j_3) (q := 88) rfl mk_68 (am_inE hi_5 hx_4 (by decide)) (am_clE hi_5 hx_4 (by decide)) rfl ?_
    refine ar_istore (ls' := [some (.ref 99), some (.int (nI s)), some (.int lim), some (.int (nI i)), some (.int (I 68 j_3))]) (q := 90) rfl rfl rfl rfl ?_
    refine ar_aload_n (j := 0) (q := 91) rfl rfl rfl rfl ?_
    refine ar_iload_n (j := 1) (q := 92) rfl rfl rfl rfl ?_
    refine ar_iload (q := 94) rfl rfl rfl ?_
    refine ar_iload (q := 96) rfl rfl rfl ?_
    refine ar_sipush (v := 180) (q := 99) rfl rfl rfl ?_
    refine ar_ib (i := .iadd) (z := (I 68 j_3) + 180) (q := 100) rfl rfl rfl rfl rfl ?_
    refine ar_iconst (v := 1) (q := 101) rfl rfl rfl ?_
    refine ar_ib (i := .isub) (z := ((I 68 j_3) + 180) - 1) (q := 102) rfl rfl rfl rfl rfl ?_
    refine ar_invv (as := [.int (nI s), .int (I 68 j_3), .int (((I 68 j_3) + 180) - 1)]) (rest := []) (b2 := (0, 0)) (b3 := (0, 0)) (q := 105) rfl rfl rfl rfl mk_99 rfl rfl rfl rfl rfl ?_
    refine am_meth_mono d _ _ _ _ _ (fun v9 m9 h9 => ?_) h
    obtain ⟨z_6, I_7, L_8, rfl, rfl, h⟩ := h9
    show am_Run am_X0 (am_meth d) 104 R 105 [some (.ref 99), some (.int (nI s)), some (.int lim), some (.int (nI i)), some (.int (I 68 j_3))] [.int z_6] (am_mk I_7 L_8, 0, 0)
    refine ar_iload_n (j := 2) (q := 106) rfl rfl rfl rfl ?_
    obtain ⟨hA, hB⟩ := h
    refine ar_br am_c_le (t := 111) (q := 109) rfl rfl rfl (fun c_9 => ?_) (fun c_9 => ?_)
    · have h := hA c_9
      clear hA hB
      refine ar_iinc (v := nI (i + 1)) (ls' := [some (.ref 99), some (.int (nI s)), some (.int lim), some (.int (nI (i + 1))), some (.int (I 68 j_3))]) (q := 114) rfl rfl rfl (nI_1 _) rfl rfl ?_
      refine ar_goto (t := 66) rfl rfl ?_
      exact am_Run.weak (ls' := _) (by exact ⟨rfl, ⟨rfl, ⟨rfl, ⟨rfl, trivial⟩⟩⟩⟩) h
    · have h := hB c_9
      clear hA hB
      refine ar_iconst (v := 1) (q := 110) rfl rfl rfl ?_
      exact ar_zret rfl rfl (Or.inr rfl) h
theorem r_Rules_isTooFar_0 {d : Nat} (hd : 1 ≤ d) {R : am_R} {I : Nat → Nat → Int32} {L : Nat → Nat → Int64} {k : Nat} {s : Nat} (h : am_meth d 101 [.ref 99, .int (nI s)] (am_mk I L, 0, 0) (am_ri (fun z_1 I_2 L_3 => ((z_1 = (-9 : Int32) → (k < 20 ∧ (s < 60 ∧ ((s < 60) ∧ ((am_ix I_2 67 s 20) ∧ (∃ j_9 : Nat, I_2 17 k = nI j_9 ∧ (∃ j_11 : Nat, I_2 43 (am_n I_2 67 s) = nI j_11 ∧ ((j_9 < 10) ∧ ((j_11 < 10) ∧ (((((I_2 68 s) - (I_2 66 0)) < ((I_2 (6 + j_9) j_11 + 23) / 24) → (R (some (.int 1)) (am_mk I_2 L_3, 0, 0))) ∧ (¬ ((I_2 68 s) - (I_2 66 0)) < ((I_2 (6 + j_9) j_11 + 23) / 24) → (am_meth d 103 [.ref 99, .int (nI s)] (am_mk I_2 L_3, 0, 0) (am_ri (fun z_16 I_17 L_18 => ((z_16 = (-9 : Int32) → (R (some (.int 0)) (am_mk I_17 L_18, 0, 0))) ∧ (¬ z_16 = (-9 : Int32) → (∃ j_20 : Nat, j_20 < 60 ∧ z_16 = nI j_20 ∧ ((s < 60) ∧ ((am_ix I_17 67 s 20) ∧ ((j_20 < 60) ∧ ((am_ix I_17 67 j_20 20) ∧ (∃ j_27 : Nat, I_17 43 (am_n I_17 67 s) = nI j_27 ∧ (∃ j_29 : Nat, I_17 43 (am_n I_17 67 j_20) = nI j_29 ∧ ((j_27 < 10) ∧ ((j_29 < 10) ∧ (((((I_17 68 j_20) - (I_17 69 s)) < ((I_17 (6 + j_27) j_29 + 23) / 24) → (R (some (.int 1)) (am_mk I_17 L_18, 0, 0))) ∧ (¬ ((I_17 68 j_20) - (I_17 69 s)) < ((I_17 (6 + j_27) j_29 + 23) / 24) → (R (some (.int 0)) (am_mk I_17 L_18, 0, 0))))))))))))))))))))))))))))))) ∧ (¬ z_1 = (-9 : Int32) → (∃ j_34 : Nat, z_1 = nI j_34 ∧ ((j_34 < 60) ∧ ((am_ix I_2 67 j_34 20) ∧ (∃ j_38 : Nat, j_38 < 60 ∧ z_1 = nI j_38 ∧ (s < 60 ∧ ((s < 60) ∧ ((am_ix I_2 67 s 20) ∧ (∃ j_44 : Nat, I_2 43 (am_n I_2 67 j_34) = nI j_44 ∧ (∃ j_46 : Nat, I_2 43 (am_n I_2 67 s) = nI j_46 ∧ ((j_44 < 10) ∧ ((j_46 < 10) ∧ (((((I_2 68 s) - (I_2 69 j_38)) < ((I_2 (6 + j_44) j_46 + 23) / 24) → (R (some (.int 1)) (am_mk I_2 L_3, 0, 0))) ∧ (¬ ((I_2 68 s) - (I_2 69 j_38)) < ((I_2 (6 + j_44) j_46 + 23) / 24) → (am_meth d 103 [.ref 99, .int (nI s)] (am_mk I_2 L_3, 0, 0) (am_ri (fun z_51 I_52 L_53 => ((z_51 = (-9 : Int32) → (R (some (.int 0)) (am_mk I_52 L_53, 0, 0))) ∧ (¬ z_51 = (-9 : Int32) → (∃ j_55 : Nat, j_55 < 60 ∧ z_51 = nI j_55 ∧ ((s < 60) ∧ ((am_ix I_52 67 s 20) ∧ ((j_55 < 60) ∧ ((am_ix I_52 67 j_55 20) ∧ (∃ j_62 : Nat, I_52 43 (am_n I_52 67 s) = nI j_62 ∧ (∃ j_64 : Nat, I_52 43 (am_n I_52 67 j_55) = nI j_64 ∧ ((j_62 < 10) ∧ ((j_64 < 10) ∧ (((((I_52 68 j_55) - (I_52 69 s)) < ((I_52 (6 + j_62) j_64 + 23) / 24) → (R (some (.int 1)) (am_mk I_52 L_53, 0, 0))) ∧ (¬ ((I_52 68 j_55) - (I_52 69 s)) < ((I_52 (6 + j_62) j_64 + 23) / 24) → (R (some (.int 0)) (am_mk I_52 L_53, 0, 0)))))))))))))))))))))))))))))))))))))) : am_Run am_X0 (am_meth d) 100 R 0 [some (.ref 99), some (.int (nI k)), some (.int (nI s)), none, none, none, none] [] (am_mk I L, 0, 0) := by
  refine ar_aload_n (j := 0) (q := 1) rfl rfl rfl rfl ?_
  refine ar_iload_n (j := 2) (q := 2) rfl rfl rfl rfl ?_
  refine ar_invv (as := [.int (nI s)]) (rest := []) (b2 := (0, 0)) (b3 := (0, 0)) (q := 5) rfl rfl rfl rfl mk_99 rfl rfl rfl rfl rfl ?_
  refine am_meth_mono d _ _ _ _ _ (fun v9 m9 h9 => ?_) h
  obtain ⟨z_1, I_2, L_3, rfl, rfl, h⟩ := h9
  show am_Run am_X0 (am_meth d) 100 R 5 [some (.ref 99), some (.int (nI k)), some (.int (nI s)), none, none, none, none] [.int z_1] (am_mk I_2 L_3, 0, 0)
  refine ar_istore_n (j := 3) (ls' := [some (.ref 99), some (.int (nI k)), some (.int (nI s)), some (.int z_1), none, none, none]) (q := 6) rfl rfl rfl rfl rfl ?_
  refine ar_iload_n (j := 3) (q := 7) rfl rfl rfl rfl ?_
  refine ar_bipush (v := (-9 : Int32)) (q := 9) rfl rfl rfl ?_
  obtain ⟨hA, hB⟩ := h
  refine ar_br am_c_ne (t := 24) (q := 12) rfl rfl rfl (fun c_4 => ?_) (fun c_4 => ?_)
  · have h := hB c_4
    clear hA hB
    refine ar_aload_n (j := 0) (q := 25) rfl rfl rfl rfl ?_
    refine ar_iload_n (j := 3) (q := 26) rfl rfl rfl rfl ?_
    refine ar_invv (as := [.int z_1]) (rest := []) (b2 := (0, 0)) (b3 := (0, 0)) (q := 29) rfl rfl rfl rfl mk_99 rfl rfl rfl rfl rfl ?_
    obtain ⟨j_34, hi_35, h⟩ := h
    obtain ⟨hp_36, h⟩ := h
    obtain ⟨hp_37, h⟩ := h
    refine ok_Ru_townOf (by omega) hi_35 hp_36 hp_37 ?_
    show am_Run am_X0 (am_meth d) 100 R 29 [some (.ref 99), some (.int (nI k)), some (.int (nI s)), some (.int z_1), none, none, none] [.int (I_2 43 (am_n I_2 67 j_34))] (am_mk I_2 L_3, 0, 0)
    refine ar_istore (ls' := [some (.ref 99), some (.int (nI k)), some (.int (nI s)), some (.int z_1), some (.int (I_2 43 (am_n I_2 67 j_34))), none, none]) (q := 31) rfl rfl rfl rfl ?_
    refine ar_iload_n (j := 3) (q := 32) rfl rfl rfl rfl ?_
    refine ar_bipush (v := (-9 : Int32)) (q := 34) rfl rfl rfl ?_
    refine ar_br am_c_ne (t := 47) (q := 37) rfl rfl rfl (fun _ => ?_) (fun c9 => absurd c_4 c9)
    refine ar_aload_n (j := 0) (q := 48) rfl rfl rfl rfl ?_
    refine ar_getf (v := .ref 66) (q := 51) rfl rfl mk_99 rfl rfl ?_
    refine ar_getf (v := .ref 69) (q := 54) rfl rfl mk_66 rfl rfl ?_
    refine ar_iload_n (j := 3) (q := 55) rfl rfl rfl rfl ?_
    obtain ⟨j_38, hx_39, hi_40, h⟩ := h
    refine ar_iald (v := I_2 69 j_38) (q := 56) rfl mk_69 (am_inE hi_40 hx_39 (by decide)) (am_clE hi_40 hx_39 (by decide)) rfl ?_
    refine ar_istore (ls' := [some (.ref 99), some (.int (nI k)), some (.int (nI s)), some (.int z_1), some (.int (I_2 43 (am_n I_2 67 j_34))), some (.int (I_2 69 j_38)), none]) (q := 58) rfl rfl rfl rfl ?_
    refine ar_aload_n (j := 0) (q := 59) rfl rfl rfl rfl ?_
    refine ar_getf (v := .ref 66) (q := 62) rfl rfl mk_99 rfl rfl ?_
    refine ar_getf (v := .ref 68) (q := 65) rfl rfl mk_66 rfl rfl ?_
    refine ar_iload_n (j := 2) (q := 66) rfl rfl rfl rfl ?_
    obtain ⟨hx_41, h⟩ := h
    refine ar_iald (v := I_2 68 s) (q := 67) rfl mk_68 (am_inE rfl hx_41 (by decide)) (am_clE rfl hx_41 (by decide)) rfl ?_
    refine ar_iload (q := 69) rfl rfl rfl ?_
    refine ar_ib (i := .isub) (z := (I_2 68 s) - (I_2 69 j_38)) (q := 70) rfl rfl rfl rfl rfl ?_
    refine ar_aload_n (j := 0) (q := 71) rfl rfl rfl rfl ?_
    refine ar_getf (v := .ref 2) (q := 74) rfl rfl mk_99 rfl rfl ?_
    refine ar_iload (q := 76) rfl rfl rfl ?_
    refine ar_aload_n (j := 0) (q := 77) rfl rfl rfl rfl ?_
    refine ar_iload_n (j := 2) (q := 78) rfl rfl rfl rfl ?_
    refine ar_invv (as := [.int (nI s)]) (rest := [.int (I_2 43 (am_n I_2 67 j_34)), .ref 2, .int ((I_2 68 s) - (I_2 69 j_38))]) (b2 := (0, 0)) (b3 := (0, 0)) (q := 81) rfl rfl rfl rfl mk_99 rfl rfl rfl rfl rfl ?_
    obtain ⟨hp_42, h⟩ := h
    obtain ⟨hp_43, h⟩ := h
    refine ok_Ru_townOf (by omega) rfl hp_42 hp_43 ?_
    show am_Run am_X0 (am_meth d) 100 R 81 [some (.ref 99), some (.int (nI k)), some (.int (nI s)), some (.int z_1), some (.int (I_2 43 (am_n I_2 67 j_34))), some (.int (I_2 69 j_38)), none] [.int (I_2 43 (am_n I_2 67 s)), .int (I_2 43 (am_n I_2 67 j_34)), .ref 2, .int ((I_2 68 s) - (I_2 69 j_38))] (am_mk I_2 L_3, 0, 0)
    refine ar_invv (as := [.int (I_2 43 (am_n I_2 67 j_34)), .int (I_2 43 (am_n I_2 67 s))]) (rest := [.int ((I_2 68 s) - (I_2 69 j_38))]) (b2 := (0, 0)) (b3 := (0, 0)) (q := 84) rfl rfl rfl rfl mk_2 rfl rfl rfl rfl rfl ?_
    obtain ⟨j_44, hi_45, h⟩ := h
    obtain ⟨j_46, hi_47, h⟩ := h
    obtain ⟨hp_48, h⟩ := h
    obtain ⟨hp_49, h⟩ := h
    refine ok_To_daysBetween (by omega) hi_45 hi_47 hp_48 hp_49 ?_
    show am_Run am_X0 (am_meth d) 100 R 84 [some (.ref 99), some (.int (nI k)), some (.int (nI s)), some (.int z_1), some (.int (I_2 43 (am_n I_2 67 j_34))), some (.int (I_2 69 j_38)), none] [.int ((I_2 (6 + j_44) j_46 + 23) / 24), .int ((I_2 68 s) - (I_2 69 j_38))] (am_mk I_2 L_3, 0, 0)
    obtain ⟨hA, hB⟩ := h
    refine ar_br am_d_ge (t := 89) (q := 87) rfl rfl rfl (fun c_50 => ?_) (fun c_50 => ?_)
    · have h := hB c_50
      clear hA hB
      refine ar_aload_n (j := 0) (q := 90) rfl rfl rfl rfl ?_
      refine ar_iload_n (j := 2) (q := 91) rfl rfl rfl rfl ?_
      refine ar_invv (as := [.int (nI s)]) (rest := []) (b2 := (0, 0)) (b3 := (0, 0)) (q := 94) rfl rfl rfl rfl mk_99 rfl rfl rfl rfl rfl ?_
      refine am_meth_mono d _ _ _ _ _ (fun v9 m9 h9 => ?_) h
      obtain ⟨z_51, I_52, L_53, rfl, rfl, h⟩ := h9
      show am_Run am_X0 (am_meth d) 100 R 94 [some (.ref 99), some (.int (nI k)), some (.int (nI s)), some (.int z_1), some (.int (I_2 43 (am_n I_2 67 j_34))), some (.int (I_2 69 j_38)), none] [.int z_51] (am_mk I_52 L_53, 0, 0)
      refine ar_istore (ls' := [some (.ref 99), some (.int (nI k)), some (.int (nI s)), some (.int z_1), some (.int (I_2 43 (am_n I_2 67 j_34))), some (.int (I_2 69 j_38)), some (.int z_51)]) (q := 96) rfl rfl rfl rfl ?_
      refine ar_iload (q := 98) rfl rfl rfl ?_
      refine ar_bipush (v := (-9 : Int32)) (q := 100) rfl rfl rfl ?_
      obtain ⟨hA, hB⟩ := h
      refine ar_br am_c_ne (t := 105) (q := 103) rfl rfl rfl (fun c_54 => ?_) (fun c_54 => ?_)
      · have h := hB c_54
        clear hA hB
        refine ar_aload_n (j := 0) (q := 106) rfl rfl rfl rfl ?_
        refine ar_getf (v := .ref 66) (q := 109) rfl rfl mk_99 rfl rfl ?_
        refine ar_getf (v := .ref 68) (q := 112) rfl rfl mk_66 rfl rfl ?_
        refine ar_iload (q := 114) rfl rfl rfl ?_
        obtain ⟨j_55, hx_56, hi_57, h⟩ := h
        refine ar_iald (v := I_52 68 j_55) (q := 115) rfl mk_68 (am_inE hi_57 hx_56 (by decide)) (am_clE hi_57 hx_56 (by decide)) rfl ?_
        refine ar_aload_n (j := 0) (q := 116) rfl rfl rfl rfl ?_
        refine ar_getf (v := .ref 66) (q := 119) rfl rfl mk_99 rfl rfl ?_
        refine ar_getf (v := .ref 69) (q := 122) rfl rfl mk_66 rfl rfl ?_
        refine ar_iload_n (j := 2) (q := 123) rfl rfl rfl rfl ?_
        refine ar_iald (v := I_52 69 s) (q := 124) rfl mk_69 (am_inE rfl hx_41 (by decide)) (am_clE rfl hx_41 (by decide)) rfl ?_
        refine ar_ib (i := .isub) (z := (I_52 68 j_55) - (I_52 69 s)) (q := 125) rfl rfl rfl rfl rfl ?_
        refine ar_aload_n (j := 0) (q := 126) rfl rfl rfl rfl ?_
        refine ar_getf (v := .ref 2) (q := 129) rfl rfl mk_99 rfl rfl ?_
        refine ar_aload_n (j := 0) (q := 130) rfl rfl rfl rfl ?_
        refine ar_iload_n (j := 2) (q := 131) rfl rfl rfl rfl ?_
        refine ar_invv (as := [.int (nI s)]) (rest := [.ref 2, .int ((I_52 68 j_55) - (I_52 69 s))]) (b2 := (0, 0)) (b3 := (0, 0)) (q := 134) rfl rfl rfl rfl mk_99 rfl rfl rfl rfl rfl ?_
        obtain ⟨hp_58, h⟩ := h
        obtain ⟨hp_59, h⟩ := h
        refine ok_Ru_townOf (by omega) rfl hp_58 hp_59 ?_
        show am_Run am_X0 (am_meth d) 100 R 134 [some (.ref 99), some (.int (nI k)), some (.int (nI s)), some (.int z_1), some (.int (I_2 43 (am_n I_2 67 j_34))), some (.int (I_2 69 j_38)), some (.int z_51)] [.int (I_52 43 (am_n I_52 67 s)), .ref 2, .int ((I_52 68 j_55) - (I_52 69 s))] (am_mk I_52 L_53, 0, 0)
        refine ar_aload_n (j := 0) (q := 135) rfl rfl rfl rfl ?_
        refine ar_iload (q := 137) rfl rfl rfl ?_
        refine ar_invv (as := [.int z_51]) (rest := [.int (I_52 43 (am_n I_52 67 s)), .ref 2, .int ((I_52 68 j_55) - (I_52 69 s))]) (b2 := (0, 0)) (b3 := (0, 0)) (q := 140) rfl rfl rfl rfl mk_99 rfl rfl rfl rfl rfl ?_
        obtain ⟨hp_60, h⟩ := h
        obtain ⟨hp_61, h⟩ := h
        refine ok_Ru_townOf (by omega) hi_57 hp_60 hp_61 ?_
        show am_Run am_X0 (am_meth d) 100 R 140 [some (.ref 99), some (.int (nI k)), some (.int (nI s)), some (.int z_1), some (.int (I_2 43 (am_n I_2 67 j_34))), some (.int (I_2 69 j_38)), some (.int z_51)] [.int (I_52 43 (am_n I_52 67 j_55)), .int (I_52 43 (am_n I_52 67 s)), .ref 2, .int ((I_52 68 j_55) - (I_52 69 s))] (am_mk I_52 L_53, 0, 0)
        refine ar_invv (as := [.int (I_52 43 (am_n I_52 67 s)), .int (I_52 43 (am_n I_52 67 j_55))]) (rest := [.int ((I_52 68 j_55) - (I_52 69 s))]) (b2 := (0, 0)) (b3 := (0, 0)) (q := 143) rfl rfl rfl rfl mk_2 rfl rfl rfl rfl rfl ?_
        obtain ⟨j_62, hi_63, h⟩ := h
        obtain ⟨j_64, hi_65, h⟩ := h
        obtain ⟨hp_66, h⟩ := h
        obtain ⟨hp_67, h⟩ := h
        refine ok_To_daysBetween (by omega) hi_63 hi_65 hp_66 hp_67 ?_
        show am_Run am_X0 (am_meth d) 100 R 143 [some (.ref 99), some (.int (nI k)), some (.int (nI s)), some (.int z_1), some (.int (I_2 43 (am_n I_2 67 j_34))), some (.int (I_2 69 j_38)), some (.int z_51)] [.int ((I_52 (6 + j_62) j_64 + 23) / 24), .int ((I_52 68 j_55) - (I_52 69 s))] (am_mk I_52 L_53, 0, 0)
        obtain ⟨hA, hB⟩ := h
        refine ar_br am_d_ge (t := 150) (q := 146) rfl rfl rfl (fun c_68 => ?_) (fun c_68 => ?_)
        · have h := hB c_68
          clear hA hB
          refine ar_iconst (v := 0) (q := 151) rfl rfl rfl ?_
          exact ar_zret rfl rfl (Or.inl rfl) h
        · have c_68 := Classical.not_not.mp c_68
          have h := hA c_68
          clear hA hB
          refine ar_iconst (v := 1) (q := 147) rfl rfl rfl ?_
          refine ar_goto (t := 151) rfl rfl ?_
          exact ar_zret rfl rfl (Or.inr rfl) h
      · have c_54 := Classical.not_not.mp c_54
        have h := hA c_54
        clear hA hB
        refine ar_iconst (v := 0) (q := 104) rfl rfl rfl ?_
        exact ar_zret rfl rfl (Or.inl rfl) h
    · have c_50 := Classical.not_not.mp c_50
      have h := hA c_50
      clear hA hB
      refine ar_iconst (v := 1) (q := 88) rfl rfl rfl ?_
      exact ar_zret rfl rfl (Or.inr rfl) h
  · have c_4 := Classical.not_not.mp c_4
    have h := hA c_4
    clear hA hB
    refine ar_aload_n (j := 0) (q := 13) rfl rfl rfl rfl ?_
    refine ar_getf (v := .ref 16) (q := 16) rfl rfl mk_99 rfl rfl ?_
    refine ar_getf (v := .ref 17) (q := 19) rfl rfl mk_16 rfl rfl ?_
    refine ar_iload_n (j := 1) (q := 20) rfl rfl rfl rfl ?_
    obtain ⟨hx_5, h⟩ := h
    refine ar_iald (v := I_2 17 k) (q := 21) rfl mk_17 (am_inE rfl hx_5 (by decide)) (am_clE rfl hx_5 (by decide)) rfl ?_
    refine ar_goto (t := 29) rfl rfl ?_
    refine ar_istore (ls' := [some (.ref 99), some (.int (nI k)), some (.int (nI s)), some (.int z_1), some (.int (I_2 17 k)), none, none]) (q := 31) rfl rfl rfl rfl ?_
    refine ar_iload_n (j := 3) (q := 32) rfl rfl rfl rfl ?_
    refine ar_bipush (v := (-9 : Int32)) (q := 34) rfl rfl rfl ?_
    refine ar_br am_c_ne (t := 47) (q := 37) rfl rfl rfl (fun c9 => absurd c_4 c9) (fun _ => ?_)
    refine ar_aload_n (j := 0) (q := 38) rfl rfl rfl rfl ?_
    refine ar_getf (v := .ref 66) (q := 41) rfl rfl mk_99 rfl rfl ?_
    refine ar_getf (v := .int (I_2 66 0)) (q := 44) rfl rfl mk_66 rfl rfl ?_
    refine ar_goto (t := 56) rfl rfl ?_
    refine ar_istore (ls' := [some (.ref 99), some (.int (nI k)), some (.int (nI s)), some (.int z_1), some (.int (I_2 17 k)), some (.int (I_2 66 0)), none]) (q := 58) rfl rfl rfl rfl ?_
    refine ar_aload_n (j := 0) (q := 59) rfl rfl rfl rfl ?_
    refine ar_getf (v := .ref 66) (q := 62) rfl rfl mk_99 rfl rfl ?_
    refine ar_getf (v := .ref 68) (q := 65) rfl rfl mk_66 rfl rfl ?_
    refine ar_iload_n (j := 2) (q := 66) rfl rfl rfl rfl ?_
    obtain ⟨hx_6, h⟩ := h
    refine ar_iald (v := I_2 68 s) (q := 67) rfl mk_68 (am_inE rfl hx_6 (by decide)) (am_clE rfl hx_6 (by decide)) rfl ?_
    refine ar_iload (q := 69) rfl rfl rfl ?_
    refine ar_ib (i := .isub) (z := (I_2 68 s) - (I_2 66 0)) (q := 70) rfl rfl rfl rfl rfl ?_
    refine ar_aload_n (j := 0) (q := 71) rfl rfl rfl rfl ?_
    refine ar_getf (v := .ref 2) (q := 74) rfl rfl mk_99 rfl rfl ?_
    refine ar_iload (q := 76) rfl rfl rfl ?_
    refine ar_aload_n (j := 0) (q := 77) rfl rfl rfl rfl ?_
    refine ar_iload_n (j := 2) (q := 78) rfl rfl rfl rfl ?_
    refine ar_invv (as := [.int (nI s)]) (rest := [.int (I_2 17 k), .ref 2, .int ((I_2 68 s) - (I_2 66 0))]) (b2 := (0, 0)) (b3 := (0, 0)) (q := 81) rfl rfl rfl rfl mk_99 rfl rfl rfl rfl rfl ?_
    obtain ⟨hp_7, h⟩ := h
    obtain ⟨hp_8, h⟩ := h
    refine ok_Ru_townOf (by omega) rfl hp_7 hp_8 ?_
    show am_Run am_X0 (am_meth d) 100 R 81 [some (.ref 99), some (.int (nI k)), some (.int (nI s)), some (.int z_1), some (.int (I_2 17 k)), some (.int (I_2 66 0)), none] [.int (I_2 43 (am_n I_2 67 s)), .int (I_2 17 k), .ref 2, .int ((I_2 68 s) - (I_2 66 0))] (am_mk I_2 L_3, 0, 0)
    refine ar_invv (as := [.int (I_2 17 k), .int (I_2 43 (am_n I_2 67 s))]) (rest := [.int ((I_2 68 s) - (I_2 66 0))]) (b2 := (0, 0)) (b3 := (0, 0)) (q := 84) rfl rfl rfl rfl mk_2 rfl rfl rfl rfl rfl ?_
    obtain ⟨j_9, hi_10, h⟩ := h
    obtain ⟨j_11, hi_12, h⟩ := h
    obtain ⟨hp_13, h⟩ := h
    obtain ⟨hp_14, h⟩ := h
    refine ok_To_daysBetween (by omega) hi_10 hi_12 hp_13 hp_14 ?_
    show am_Run am_X0 (am_meth d) 100 R 84 [some (.ref 99), some (.int (nI k)), some (.int (nI s)), some (.int z_1), some (.int (I_2 17 k)), some (.int (I_2 66 0)), none] [.int ((I_2 (6 + j_9) j_11 + 23) / 24), .int ((I_2 68 s) - (I_2 66 0))] (am_mk I_2 L_3, 0, 0)
    obtain ⟨hA, hB⟩ := h
    refine ar_br am_d_ge (t := 89) (q := 87) rfl rfl rfl (fun c_15 => ?_) (fun c_15 => ?_)
    · have h := hB c_15
      clear hA hB
      refine ar_aload_n (j := 0) (q := 90) rfl rfl rfl rfl ?_
      refine ar_iload_n (j := 2) (q := 91) rfl rfl rfl rfl ?_
      refine ar_invv (as := [.int (nI s)]) (rest := []) (b2 := (0, 0)) (b3 := (0, 0)) (q := 94) rfl rfl rfl rfl mk_99 rfl rfl rfl rfl rfl ?_
      refine am_meth_mono d _ _ _ _ _ (fun v9 m9 h9 => ?_) h
      obtain ⟨z_16, I_17, L_18, rfl, rfl, h⟩ := h9
      show am_Run am_X0 (am_meth d) 100 R 94 [some (.ref 99), some (.int (nI k)), some (.int (nI s)), some (.int z_1), some (.int (I_2 17 k)), some (.int (I_2 66 0)), none] [.int z_16] (am_mk I_17 L_18, 0, 0)
      refine ar_istore (ls' := [some (.ref 99), some (.int (nI k)), some (.int (nI s)), some (.int z_1), some (.int (I_2 17 k)), some (.int (I_2 66 0)), some (.int z_16)]) (q := 96) rfl rfl rfl rfl ?_
      refine ar_iload (q := 98) rfl rfl rfl ?_
      refine ar_bipush (v := (-9 : Int32)) (q := 100) rfl rfl rfl ?_
      obtain ⟨hA, hB⟩ := h
      refine ar_br am_c_ne (t := 105) (q := 103) rfl rfl rfl (fun c_19 => ?_) (fun c_19 => ?_)
      · have h := hB c_19
        clear hA hB
        refine ar_aload_n (j := 0) (q := 106) rfl rfl rfl rfl ?_
        refine ar_getf (v := .ref 66) (q := 109) rfl rfl mk_99 rfl rfl ?_
        refine ar_getf (v := .ref 68) (q := 112) rfl rfl mk_66 rfl rfl ?_
        refine ar_iload (q := 114) rfl rfl rfl ?_
        obtain ⟨j_20, hx_21, hi_22, h⟩ := h
        refine ar_iald (v := I_17 68 j_20) (q := 115) rfl mk_68 (am_inE hi_22 hx_21 (by decide)) (am_clE hi_22 hx_21 (by decide)) rfl ?_
        refine ar_aload_n (j := 0) (q := 116) rfl rfl rfl rfl ?_
        refine ar_getf (v := .ref 66) (q := 119) rfl rfl mk_99 rfl rfl ?_
        refine ar_getf (v := .ref 69) (q := 122) rfl rfl mk_66 rfl rfl ?_
        refine ar_iload_n (j := 2) (q := 123) rfl rfl rfl rfl ?_
        refine ar_iald (v := I_17 69 s) (q := 124) rfl mk_69 (am_inE rfl hx_6 (by decide)) (am_clE rfl hx_6 (by decide)) rfl ?_
        refine ar_ib (i := .isub) (z := (I_17 68 j_20) - (I_17 69 s)) (q := 125) rfl rfl rfl rfl rfl ?_
        refine ar_aload_n (j := 0) (q := 126) rfl rfl rfl rfl ?_
        refine ar_getf (v := .ref 2) (q := 129) rfl rfl mk_99 rfl rfl ?_
        refine ar_aload_n (j := 0) (q := 130) rfl rfl rfl rfl ?_
        refine ar_iload_n (j := 2) (q := 131) rfl rfl rfl rfl ?_
        refine ar_invv (as := [.int (nI s)]) (rest := [.ref 2, .int ((I_17 68 j_20) - (I_17 69 s))]) (b2 := (0, 0)) (b3 := (0, 0)) (q := 134) rfl rfl rfl rfl mk_99 rfl rfl rfl rfl rfl ?_
        obtain ⟨hp_23, h⟩ := h
        obtain ⟨hp_24, h⟩ := h
        refine ok_Ru_townOf (by omega) rfl hp_23 hp_24 ?_
        show am_Run am_X0 (am_meth d) 100 R 134 [some (.ref 99), some (.int (nI k)), some (.int (nI s)), some (.int z_1), some (.int (I_2 17 k)), some (.int (I_2 66 0)), some (.int z_16)] [.int (I_17 43 (am_n I_17 67 s)), .ref 2, .int ((I_17 68 j_20) - (I_17 69 s))] (am_mk I_17 L_18, 0, 0)
        refine ar_aload_n (j := 0) (q := 135) rfl rfl rfl rfl ?_
        refine ar_iload (q := 137) rfl rfl rfl ?_
        refine ar_invv (as := [.int z_16]) (rest := [.int (I_17 43 (am_n I_17 67 s)), .ref 2, .int ((I_17 68 j_20) - (I_17 69 s))]) (b2 := (0, 0)) (b3 := (0, 0)) (q := 140) rfl rfl rfl rfl mk_99 rfl rfl rfl rfl rfl ?_
        obtain ⟨hp_25, h⟩ := h
        obtain ⟨hp_26, h⟩ := h
        refine ok_Ru_townOf (by omega) hi_22 hp_25 hp_26 ?_
        show am_Run am_X0 (am_meth d) 100 R 140 [some (.ref 99), some (.int (nI k)), some (.int (nI s)), some (.int z_1), some (.int (I_2 17 k)), some (.int (I_2 66 0)), some (.int z_16)] [.int (I_17 43 (am_n I_17 67 j_20)), .int (I_17 43 (am_n I_17 67 s)), .ref 2, .int ((I_17 68 j_20) - (I_17 69 s))] (am_mk I_17 L_18, 0, 0)
        refine ar_invv (as := [.int (I_17 43 (am_n I_17 67 s)), .int (I_17 43 (am_n I_17 67 j_20))]) (rest := [.int ((I_17 68 j_20) - (I_17 69 s))]) (b2 := (0, 0)) (b3 := (0, 0)) (q := 143) rfl rfl rfl rfl mk_2 rfl rfl rfl rfl rfl ?_
        obtain ⟨j_27, hi_28, h⟩ := h
        obtain ⟨j_29, hi_30, h⟩ := h
        obtain ⟨hp_31, h⟩ := h
        obtain ⟨hp_32, h⟩ := h
        refine ok_To_daysBetween (by omega) hi_28 hi_30 hp_31 hp_32 ?_
        show am_Run am_X0 (am_meth d) 100 R 143 [some (.ref 99), some (.int (nI k)), some (.int (nI s)), some (.int z_1), some (.int (I_2 17 k)), some (.int (I_2 66 0)), some (.int z_16)] [.int ((I_17 (6 + j_27) j_29 + 23) / 24), .int ((I_17 68 j_20) - (I_17 69 s))] (am_mk I_17 L_18, 0, 0)
        obtain ⟨hA, hB⟩ := h
        refine ar_br am_d_ge (t := 150) (q := 146) rfl rfl rfl (fun c_33 => ?_) (fun c_33 => ?_)
        · have h := hB c_33
          clear hA hB
          refine ar_iconst (v := 0) (q := 151) rfl rfl rfl ?_
          exact ar_zret rfl rfl (Or.inl rfl) h
        · have c_33 := Classical.not_not.mp c_33
          have h := hA c_33
          clear hA hB
          refine ar_iconst (v := 1) (q := 147) rfl rfl rfl ?_
          refine ar_goto (t := 151) rfl rfl ?_
          exact ar_zret rfl rfl (Or.inr rfl) h
      · have c_19 := Classical.not_not.mp c_19
        have h := hA c_19
        clear hA hB
        refine ar_iconst (v := 0) (q := 104) rfl rfl rfl ?_
        exact ar_zret rfl rfl (Or.inl rfl) h
    · have c_15 := Classical.not_not.mp c_15
      have h := hA c_15
      clear hA hB
      refine ar_iconst (v := 1) (q := 88) rfl rfl rfl ?_
      exact ar_zret rfl rfl (Or.inr rfl) h
theorem r_Rules_whyNotByDays_0 {d : Nat} {R : am_R} {I : Nat → Nat → Int32} {L : Nat → Nat → Int64} {k : Nat} {s : Nat} (h : am_meth d 99 [.ref 99, .int (nI s)] (am_mk I L, 0, 0) (am_ri (fun z_1 I_2 L_3 => ((z_1 = 0 → (am_meth d 100 [.ref 99, .int (nI k), .int (nI s)] (am_mk I_2 L_3, 0, 0) (am_ri (fun z_5 I_6 L_7 => ((z_5 = 0 → (am_meth d 104 [.ref 99, .int (nI s)] (am_mk I_6 L_7, 0, 0) (am_ri (fun z_9 I_10 L_11 => ((z_9 = 0 → (R (some (.int 0)) (am_mk I_10 L_11, 0, 0))) ∧ (¬ z_9 = 0 → (R (some (.int 5)) (am_mk I_10 L_11, 0, 0)))))))) ∧ (¬ z_5 = 0 → (R (some (.int 4)) (am_mk I_6 L_7, 0, 0)))))))) ∧ (¬ z_1 = 0 → (R (some (.int 3)) (am_mk I_2 L_3, 0, 0))))))) : am_Run am_X0 (am_meth d) 98 R 0 [some (.ref 99), some (.int (nI k)), some (.int (nI s))] [] (am_mk I L, 0, 0) := by
  refine ar_aload_n (j := 0) (q := 1) rfl rfl rfl rfl ?_
  refine ar_iload_n (j := 2) (q := 2) rfl rfl rfl rfl ?_
  refine ar_invv (as := [.int (nI s)]) (rest := []) (b2 := (0, 0)) (b3 := (0, 0)) (q := 5) rfl rfl rfl rfl mk_99 rfl rfl rfl rfl rfl ?_
  refine am_meth_mono d _ _ _ _ _ (fun v9 m9 h9 => ?_) h
  obtain ⟨z_1, I_2, L_3, rfl, rfl, h⟩ := h9
  show am_Run am_X0 (am_meth d) 98 R 5 [some (.ref 99), some (.int (nI k)), some (.int (nI s))] [.int z_1] (am_mk I_2 L_3, 0, 0)
  obtain ⟨hA, hB⟩ := h
  refine ar_b0 am_c_eq (t := 10) (q := 8) rfl rfl rfl (fun c_4 => ?_) (fun c_4 => ?_)
  · have h := hA c_4
    clear hA hB
    refine ar_aload_n (j := 0) (q := 11) rfl rfl rfl rfl ?_
    refine ar_iload_n (j := 1) (q := 12) rfl rfl rfl rfl ?_
    refine ar_iload_n (j := 2) (q := 13) rfl rfl rfl rfl ?_
    refine ar_invv (as := [.int (nI k), .int (nI s)]) (rest := []) (b2 := (0, 0)) (b3 := (0, 0)) (q := 16) rfl rfl rfl rfl mk_99 rfl rfl rfl rfl rfl ?_
    refine am_meth_mono d _ _ _ _ _ (fun v9 m9 h9 => ?_) h
    obtain ⟨z_5, I_6, L_7, rfl, rfl, h⟩ := h9
    show am_Run am_X0 (am_meth d) 98 R 16 [some (.ref 99), some (.int (nI k)), some (.int (nI s))] [.int z_5] (am_mk I_6 L_7, 0, 0)
    obtain ⟨hA, hB⟩ := h
    refine ar_b0 am_c_eq (t := 21) (q := 19) rfl rfl rfl (fun c_8 => ?_) (fun c_8 => ?_)
    · have h := hA c_8
      clear hA hB
      refine ar_aload_n (j := 0) (q := 22) rfl rfl rfl rfl ?_
      refine ar_iload_n (j := 2) (q := 23) rfl rfl rfl rfl ?_
      refine ar_invv (as := [.int (nI s)]) (rest := []) (b2 := (0, 0)) (b3 := (0, 0)) (q := 26) rfl rfl rfl rfl mk_99 rfl rfl rfl rfl rfl ?_
      refine am_meth_mono d _ _ _ _ _ (fun v9 m9 h9 => ?_) h
      obtain ⟨z_9, I_10, L_11, rfl, rfl, h⟩ := h9
      show am_Run am_X0 (am_meth d) 98 R 26 [some (.ref 99), some (.int (nI k)), some (.int (nI s))] [.int z_9] (am_mk I_10 L_11, 0, 0)
      obtain ⟨hA, hB⟩ := h
      refine ar_b0 am_c_eq (t := 33) (q := 29) rfl rfl rfl (fun c_12 => ?_) (fun c_12 => ?_)
      · have h := hA c_12
        clear hA hB
        refine ar_iconst (v := 0) (q := 34) rfl rfl rfl ?_
        exact ar_iret rfl rfl h
      · have h := hB c_12
        clear hA hB
        refine ar_iconst (v := 5) (q := 30) rfl rfl rfl ?_
        refine ar_goto (t := 34) rfl rfl ?_
        exact ar_iret rfl rfl h
    · have h := hB c_8
      clear hA hB
      refine ar_iconst (v := 4) (q := 20) rfl rfl rfl ?_
      exact ar_iret rfl rfl h
  · have h := hB c_4
    clear hA hB
    refine ar_iconst (v := 3) (q := 9) rfl rfl rfl ?_
    exact ar_iret rfl rfl h
theorem r_Rules_whyNotBesideMine_0 {d : Nat} (hd : 1 ≤ d) {R : am_R} {I : Nat → Nat → Int32} {L : Nat → Nat → Int64} {k : Nat} {s : Nat} (h : (s < 60) ∧ (((I 68 s ≤ I 66 0 → (R (some (.int 1)) (am_mk I L, 0, 0))) ∧ (¬ (I 68 s ≤ I 66 0) → ((k < 20) ∧ ((s < 60) ∧ ((am_ix I 67 s 20) ∧ (((¬ I 44 (am_n I 67 s) &&& (I 18 k ^^^ -1) = 0 → (R (some (.int 2)) (am_mk I L, 0, 0))) ∧ (¬ (¬ I 44 (am_n I 67 s) &&& (I 18 k ^^^ -1) = 0) → (am_meth d 98 [.ref 99, .int (nI k), .int (nI s)] (am_mk I L, 0, 0) (am_ri (fun z_7 I_8 L_9 => ((z_7 = 0 → (am_meth d 107 [.ref 99, .int (nI k), .int (nI s)] (am_mk I_8 L_9, 0, 0) (am_ri (fun z_11 I_12 L_13 => ((z_11 ≤ 0 → (R (some (.int 6)) (am_mk I_12 L_13, 0, 0))) ∧ (¬ z_11 ≤ 0 → (R (some (.int 0)) (am_mk I_12 L_13, 0, 0)))))))) ∧ (¬ z_7 = 0 → (R (some (.int z_7)) (am_mk I_8 L_9, 0, 0))))))))))))))))) : am_Run am_X0 (am_meth d) 95 R 0 [some (.ref 99), some (.int (nI k)), some (.int (nI s)), none] [] (am_mk I L, 0, 0) := by
  refine ar_aload_n (j := 0) (q := 1) rfl rfl rfl rfl ?_
  refine ar_iload_n (j := 2) (q := 2) rfl rfl rfl rfl ?_
  refine ar_invv (as := [.int (nI s)]) (rest := []) (b2 := (0, 0)) (b3 := (0, 0)) (q := 5) rfl rfl rfl rfl mk_99 rfl rfl rfl rfl rfl ?_
  obtain ⟨hp_2, h⟩ := h
  obtain ⟨hA, hB⟩ := h
  refine ok_Ru_hasBegun (by omega) rfl hp_2 (fun c_1 => ?_) (fun c_1 => ?_)
  · have h := hA c_1
    clear hA hB
    show am_Run am_X0 (am_meth d) 95 R 5 [some (.ref 99), some (.int (nI k)), some (.int (nI s)), none] [.int 1] (am_mk I L, 0, 0)
    refine ar_b0 am_c_eq (t := 10) (q := 8) rfl rfl rfl (fun c9 => absurd c9 (by decide)) (fun _ => ?_)
    refine ar_iconst (v := 1) (q := 9) rfl rfl rfl ?_
    exact ar_iret rfl rfl h
  · have h := hB c_1
    clear hA hB
    show am_Run am_X0 (am_meth d) 95 R 5 [some (.ref 99), some (.int (nI k)), some (.int (nI s)), none] [.int 0] (am_mk I L, 0, 0)
    refine ar_b0 am_c_eq (t := 10) (q := 8) rfl rfl rfl (fun _ => ?_) (fun c9 => absurd (by decide) c9)
    refine ar_aload_n (j := 0) (q := 11) rfl rfl rfl rfl ?_
    refine ar_iload_n (j := 1) (q := 12) rfl rfl rfl rfl ?_
    refine ar_iload_n (j := 2) (q := 13) rfl rfl rfl rfl ?_
    refine ar_invv (as := [.int (nI k), .int (nI s)]) (rest := []) (b2 := (0, 0)) (b3 := (0, 0)) (q := 16) rfl rfl rfl rfl mk_99 rfl rfl rfl rfl rfl ?_
    obtain ⟨hp_4, h⟩ := h
    obtain ⟨hp_5, h⟩ := h
    obtain ⟨hp_6, h⟩ := h
    obtain ⟨hA, hB⟩ := h
    refine ok_Ru_hasStrangeBeasts (by omega) rfl rfl hp_4 hp_5 hp_6 (fun c_3 => ?_) (fun c_3 => ?_)
    · have h := hA c_3
      clear hA hB
      show am_Run am_X0 (am_meth d) 95 R 16 [some (.ref 99), some (.int (nI k)), some (.int (nI s)), none] [.int 1] (am_mk I L, 0, 0)
      refine ar_b0 am_c_eq (t := 21) (q := 19) rfl rfl rfl (fun c9 => absurd c9 (by decide)) (fun _ => ?_)
      refine ar_iconst (v := 2) (q := 20) rfl rfl rfl ?_
      exact ar_iret rfl rfl h
    · have h := hB c_3
      clear hA hB
      show am_Run am_X0 (am_meth d) 95 R 16 [some (.ref 99), some (.int (nI k)), some (.int (nI s)), none] [.int 0] (am_mk I L, 0, 0)
      refine ar_b0 am_c_eq (t := 21) (q := 19) rfl rfl rfl (fun _ => ?_) (fun c9 => absurd (by decide) c9)
      refine ar_aload_n (j := 0) (q := 22) rfl rfl rfl rfl ?_
      refine ar_iload_n (j := 1) (q := 23) rfl rfl rfl rfl ?_
      refine ar_iload_n (j := 2) (q := 24) rfl rfl rfl rfl ?_
      refine ar_invv (as := [.int (nI k), .int (nI s)]) (rest := []) (b2 := (0, 0)) (b3 := (0, 0)) (q := 27) rfl rfl rfl rfl mk_99 rfl rfl rfl rfl rfl ?_
      refine am_meth_mono d _ _ _ _ _ (fun v9 m9 h9 => ?_) h
      obtain ⟨z_7, I_8, L_9, rfl, rfl, h⟩ := h9
      show am_Run am_X0 (am_meth d) 95 R 27 [some (.ref 99), some (.int (nI k)), some (.int (nI s)), none] [.int z_7] (am_mk I_8 L_9, 0, 0)
      refine ar_istore_n (j := 3) (ls' := [some (.ref 99), some (.int (nI k)), some (.int (nI s)), some (.int z_7)]) (q := 28) rfl rfl rfl rfl rfl ?_
      refine ar_iload_n (j := 3) (q := 29) rfl rfl rfl rfl ?_
      obtain ⟨hA, hB⟩ := h
      refine ar_b0 am_c_eq (t := 34) (q := 32) rfl rfl rfl (fun c_10 => ?_) (fun c_10 => ?_)
      · have h := hA c_10
        clear hA hB
        refine ar_aload_n (j := 0) (q := 35) rfl rfl rfl rfl ?_
        refine ar_iload_n (j := 1) (q := 36) rfl rfl rfl rfl ?_
        refine ar_iload_n (j := 2) (q := 37) rfl rfl rfl rfl ?_
        refine ar_invv (as := [.int (nI k), .int (nI s)]) (rest := []) (b2 := (0, 0)) (b3 := (0, 0)) (q := 40) rfl rfl rfl rfl mk_99 rfl rfl rfl rfl rfl ?_
        refine am_meth_mono d _ _ _ _ _ (fun v9 m9 h9 => ?_) h
        obtain ⟨z_11, I_12, L_13, rfl, rfl, h⟩ := h9
        show am_Run am_X0 (am_meth d) 95 R 40 [some (.ref 99), some (.int (nI k)), some (.int (nI s)), some (.int z_7)] [.int z_11] (am_mk I_12 L_13, 0, 0)
        obtain ⟨hA, hB⟩ := h
        refine ar_b0 am_c_le (t := 47) (q := 43) rfl rfl rfl (fun c_14 => ?_) (fun c_14 => ?_)
        · have h := hA c_14
          clear hA hB
          refine ar_bipush (v := 6) (q := 49) rfl rfl rfl ?_
          exact ar_iret rfl rfl h
        · have h := hB c_14
          clear hA hB
          refine ar_iconst (v := 0) (q := 44) rfl rfl rfl ?_
          refine ar_goto (t := 49) rfl rfl ?_
          exact ar_iret rfl rfl h
      · have h := hB c_10
        clear hA hB
        refine ar_iload_n (j := 3) (q := 33) rfl rfl rfl rfl ?_
        exact ar_iret rfl rfl h
theorem r_Rules_whyNot_0 {d : Nat} {R : am_R} {I : Nat → Nat → Int32} {L : Nat → Nat → Int64} {k : Nat} {s : Nat} (h : s < 60 ∧ ((((I 70 s) = 0 → (am_meth d 93 [.ref 99, .int (nI k)] (am_mk I L, 0, 0) (am_rv (fun I_3 L_4 => am_meth d 95 [.ref 99, .int (nI k), .int (nI s)] (am_mk I_3 L_4, 0, 0) (am_ri (fun z_5 I_6 L_7 => R (some (.int z_5)) (am_mk I_6 L_7, 0, 0))))))) ∧ (¬ (I 70 s) = 0 → (R (some (.int 9)) (am_mk I L, 0, 0)))))) : am_Run am_X0 (am_meth d) 92 R 0 [some (.ref 99), some (.int (nI k)), some (.int (nI s))] [] (am_mk I L, 0, 0) := by
  refine ar_aload_n (j := 0) (q := 1) rfl rfl rfl rfl ?_
  refine ar_getf (v := .ref 66) (q := 4) rfl rfl mk_99 rfl rfl ?_
  refine ar_getf (v := .ref 70) (q := 7) rfl rfl mk_66 rfl rfl ?_
  refine ar_iload_n (j := 2) (q := 8) rfl rfl rfl rfl ?_
  obtain ⟨hx_1, h⟩ := h
  refine ar_iald (v := I 70 s) (q := 9) rfl mk_70 (am_inE rfl hx_1 (by decide)) (am_clE rfl hx_1 (by decide)) rfl ?_
  obtain ⟨hA, hB⟩ := h
  refine ar_b0 am_c_eq (t := 15) (q := 12) rfl rfl rfl (fun c_2 => ?_) (fun c_2 => ?_)
  · have h := hA c_2
    clear hA hB
    refine ar_aload_n (j := 0) (q := 16) rfl rfl rfl rfl ?_
    refine ar_iload_n (j := 1) (q := 17) rfl rfl rfl rfl ?_
    refine ar_invv (as := [.int (nI k)]) (rest := []) (b2 := (0, 0)) (b3 := (0, 0)) (q := 20) rfl rfl rfl rfl mk_99 rfl rfl rfl rfl rfl ?_
    refine am_meth_mono d _ _ _ _ _ (fun v9 m9 h9 => ?_) h
    obtain ⟨I_3, L_4, rfl, rfl, h⟩ := h9
    show am_Run am_X0 (am_meth d) 92 R 20 [some (.ref 99), some (.int (nI k)), some (.int (nI s))] [] (am_mk I_3 L_4, 0, 0)
    refine ar_aload_n (j := 0) (q := 21) rfl rfl rfl rfl ?_
    refine ar_iload_n (j := 1) (q := 22) rfl rfl rfl rfl ?_
    refine ar_iload_n (j := 2) (q := 23) rfl rfl rfl rfl ?_
    refine ar_invv (as := [.int (nI k), .int (nI s)]) (rest := []) (b2 := (0, 0)) (b3 := (0, 0)) (q := 26) rfl rfl rfl rfl mk_99 rfl rfl rfl rfl rfl ?_
    refine am_meth_mono d _ _ _ _ _ (fun v9 m9 h9 => ?_) h
    obtain ⟨z_5, I_6, L_7, rfl, rfl, h⟩ := h9
    show am_Run am_X0 (am_meth d) 92 R 26 [some (.ref 99), some (.int (nI k)), some (.int (nI s))] [.int z_5] (am_mk I_6 L_7, 0, 0)
    exact ar_iret rfl rfl h
  · have h := hB c_2
    clear hA hB
    refine ar_bipush (v := 9) (q := 14) rfl rfl rfl ?_
    exact ar_iret rfl rfl h
theorem r_Rules_mayAlone_0 {d : Nat} (hd : 1 ≤ d) {R : am_R} {I : Nat → Nat → Int32} {L : Nat → Nat → Int64} {k : Nat} {s : Nat} (h : (s < 60) ∧ (((I 68 s ≤ I 66 0 → (R (some (.int 0)) (am_mk I L, 0, 0))) ∧ (¬ (I 68 s ≤ I 66 0) → ((k < 20) ∧ ((s < 60) ∧ ((am_ix I 67 s 20) ∧ (((¬ I 44 (am_n I 67 s) &&& (I 18 k ^^^ -1) = 0 → (R (some (.int 0)) (am_mk I L, 0, 0))) ∧ (¬ (¬ I 44 (am_n I 67 s) &&& (I 18 k ^^^ -1) = 0) → (am_meth d 107 [.ref 99, .int (nI k), .int (nI s)] (am_mk I L, 0, 0) (am_ri (fun z_7 I_8 L_9 => ((z_7 ≤ 0 → (R (some (.int 0)) (am_mk I_8 L_9, 0, 0))) ∧ (¬ z_7 ≤ 0 → (R (some (.int 1)) (am_mk I_8 L_9, 0, 0))))))))))))))))) : am_Run am_X0 (am_meth d) 111 R 0 [some (.ref 99), some (.int (nI k)), some (.int (nI s))] [] (am_mk I L, 0, 0) := by
  refine ar_aload_n (j := 0) (q := 1) rfl rfl rfl rfl ?_
  refine ar_iload_n (j := 2) (q := 2) rfl rfl rfl rfl ?_
  refine ar_invv (as := [.int (nI s)]) (rest := []) (b2 := (0, 0)) (b3 := (0, 0)) (q := 5) rfl rfl rfl rfl mk_99 rfl rfl rfl rfl rfl ?_
  obtain ⟨hp_2, h⟩ := h
  obtain ⟨hA, hB⟩ := h
  refine ok_Ru_hasBegun (by omega) rfl hp_2 (fun c_1 => ?_) (fun c_1 => ?_)
  · have h := hA c_1
    clear hA hB
    show am_Run am_X0 (am_meth d) 111 R 5 [some (.ref 99), some (.int (nI k)), some (.int (nI s))] [.int 1] (am_mk I L, 0, 0)
    refine ar_b0 am_c_ne (t := 30) (q := 8) rfl rfl rfl (fun _ => ?_) (fun c9 => absurd (by decide) c9)
    refine ar_iconst (v := 0) (q := 31) rfl rfl rfl ?_
    exact ar_zret rfl rfl (Or.inl rfl) h
  · have h := hB c_1
    clear hA hB
    show am_Run am_X0 (am_meth d) 111 R 5 [some (.ref 99), some (.int (nI k)), some (.int (nI s))] [.int 0] (am_mk I L, 0, 0)
    refine ar_b0 am_c_ne (t := 30) (q := 8) rfl rfl rfl (fun c9 => absurd (by decide) c9) (fun _ => ?_)
    refine ar_aload_n (j := 0) (q := 9) rfl rfl rfl rfl ?_
    refine ar_iload_n (j := 1) (q := 10) rfl rfl rfl rfl ?_
    refine ar_iload_n (j := 2) (q := 11) rfl rfl rfl rfl ?_
    refine ar_invv (as := [.int (nI k), .int (nI s)]) (rest := []) (b2 := (0, 0)) (b3 := (0, 0)) (q := 14) rfl rfl rfl rfl mk_99 rfl rfl rfl rfl rfl ?_
    obtain ⟨hp_4, h⟩ := h
    obtain ⟨hp_5, h⟩ := h
    obtain ⟨hp_6, h⟩ := h
    obtain ⟨hA, hB⟩ := h
    refine ok_Ru_hasStrangeBeasts (by omega) rfl rfl hp_4 hp_5 hp_6 (fun c_3 => ?_) (fun c_3 => ?_)
    · have h := hA c_3
      clear hA hB
      show am_Run am_X0 (am_meth d) 111 R 14 [some (.ref 99), some (.int (nI k)), some (.int (nI s))] [.int 1] (am_mk I L, 0, 0)
      refine ar_b0 am_c_ne (t := 30) (q := 17) rfl rfl rfl (fun _ => ?_) (fun c9 => absurd (by decide) c9)
      refine ar_iconst (v := 0) (q := 31) rfl rfl rfl ?_
      exact ar_zret rfl rfl (Or.inl rfl) h
    · have h := hB c_3
      clear hA hB
      show am_Run am_X0 (am_meth d) 111 R 14 [some (.ref 99), some (.int (nI k)), some (.int (nI s))] [.int 0] (am_mk I L, 0, 0)
      refine ar_b0 am_c_ne (t := 30) (q := 17) rfl rfl rfl (fun c9 => absurd (by decide) c9) (fun _ => ?_)
      refine ar_aload_n (j := 0) (q := 18) rfl rfl rfl rfl ?_
      refine ar_iload_n (j := 1) (q := 19) rfl rfl rfl rfl ?_
      refine ar_iload_n (j := 2) (q := 20) rfl rfl rfl rfl ?_
      refine ar_invv (as := [.int (nI k), .int (nI s)]) (rest := []) (b2 := (0, 0)) (b3 := (0, 0)) (q := 23) rfl rfl rfl rfl mk_99 rfl rfl rfl rfl rfl ?_
      refine am_meth_mono d _ _ _ _ _ (fun v9 m9 h9 => ?_) h
      obtain ⟨z_7, I_8, L_9, rfl, rfl, h⟩ := h9
      show am_Run am_X0 (am_meth d) 111 R 23 [some (.ref 99), some (.int (nI k)), some (.int (nI s))] [.int z_7] (am_mk I_8 L_9, 0, 0)
      obtain ⟨hA, hB⟩ := h
      refine ar_b0 am_c_le (t := 30) (q := 26) rfl rfl rfl (fun c_10 => ?_) (fun c_10 => ?_)
      · have h := hA c_10
        clear hA hB
        refine ar_iconst (v := 0) (q := 31) rfl rfl rfl ?_
        exact ar_zret rfl rfl (Or.inl rfl) h
      · have h := hB c_10
        clear hA hB
        refine ar_iconst (v := 1) (q := 27) rfl rfl rfl ?_
        refine ar_goto (t := 31) rfl rfl ?_
        exact ar_zret rfl rfl (Or.inr rfl) h
theorem r_Rules_hoursTo_0 {d : Nat} (hd : 1 ≤ d) {R : am_R} {I : Nat → Nat → Int32} {L : Nat → Nat → Int64} {k : Nat} {s : Nat} (h : s < 60 ∧ (am_meth d 110 [.ref 99, .int (nI k), .int (I 68 s)] (am_mk I L, 0, 0) (am_ri (fun z_2 I_3 L_4 => ∃ j_5 : Nat, j_5 < 10 ∧ z_2 = nI j_5 ∧ ((s < 60) ∧ ((am_ix I_3 67 s 20) ∧ (∃ j_10 : Nat, j_10 < 10 ∧ I_3 43 (am_n I_3 67 s) = nI j_10 ∧ (R (some (.int (I_3 (6 + j_5) j_10))) (am_mk I_3 L_4, 0, 0))))))))) : am_Run am_X0 (am_meth d) 113 R 0 [some (.ref 99), some (.int (nI k)), some (.int (nI s))] [] (am_mk I L, 0, 0) := by
  refine ar_aload_n (j := 0) (q := 1) rfl rfl rfl rfl ?_
  refine ar_getf (v := .ref 2) (q := 4) rfl rfl mk_99 rfl rfl ?_
  refine ar_getf (v := .ref 5) (q := 7) rfl rfl mk_2 rfl rfl ?_
  refine ar_aload_n (j := 0) (q := 8) rfl rfl rfl rfl ?_
  refine ar_iload_n (j := 1) (q := 9) rfl rfl rfl rfl ?_
  refine ar_aload_n (j := 0) (q := 10) rfl rfl rfl rfl ?_
  refine ar_getf (v := .ref 66) (q := 13) rfl rfl mk_99 rfl rfl ?_
  refine ar_getf (v := .ref 68) (q := 16) rfl rfl mk_66 rfl rfl ?_
  refine ar_iload_n (j := 2) (q := 17) rfl rfl rfl rfl ?_
  obtain ⟨hx_1, h⟩ := h
  refine ar_iald (v := I 68 s) (q := 18) rfl mk_68 (am_inE rfl hx_1 (by decide)) (am_clE rfl hx_1 (by decide)) rfl ?_
  refine ar_invv (as := [.int (nI k), .int (I 68 s)]) (rest := [.ref 5]) (b2 := (0, 0)) (b3 := (0, 0)) (q := 21) rfl rfl rfl rfl mk_99 rfl rfl rfl rfl rfl ?_
  refine am_meth_mono d _ _ _ _ _ (fun v9 m9 h9 => ?_) h
  obtain ⟨z_2, I_3, L_4, rfl, rfl, h⟩ := h9
  show am_Run am_X0 (am_meth d) 113 R 21 [some (.ref 99), some (.int (nI k)), some (.int (nI s))] [.int z_2, .ref 5] (am_mk I_3 L_4, 0, 0)
  obtain ⟨j_5, hx_6, hi_7, h⟩ := h
  refine ar_aald (c2 := 6 + j_5) (q := 22) rfl mk_5 (am_inE hi_7 hx_6 (by decide)) (congrArg (fun z => some (6 + z)) (am_clT (n := 10) hi_7 hx_6 (by decide))) rfl ?_
  refine ar_aload_n (j := 0) (q := 23) rfl rfl rfl rfl ?_
  refine ar_iload_n (j := 2) (q := 24) rfl rfl rfl rfl ?_
  refine ar_invv (as := [.int (nI s)]) (rest := [.ref (6 + j_5)]) (b2 := (0, 0)) (b3 := (0, 0)) (q := 27) rfl rfl rfl rfl mk_99 rfl rfl rfl rfl rfl ?_
  obtain ⟨hp_8, h⟩ := h
  obtain ⟨hp_9, h⟩ := h
  refine ok_Ru_townOf (by omega) rfl hp_8 hp_9 ?_
  show am_Run am_X0 (am_meth d) 113 R 27 [some (.ref 99), some (.int (nI k)), some (.int (nI s))] [.int (I_3 43 (am_n I_3 67 s)), .ref (6 + j_5)] (am_mk I_3 L_4, 0, 0)
  obtain ⟨j_10, hx_11, hi_12, h⟩ := h
  refine ar_iald (v := I_3 (6 + j_5) j_10) (q := 28) rfl (mk_g5 hx_6) (am_inE hi_12 hx_11 (by decide)) (am_clE hi_12 hx_11 (by decide)) rfl ?_
  exact ar_iret rfl rfl h
theorem r_M_meets_0 {d : Nat} {R : am_R} {I : Nat → Nat → Int32} {L : Nat → Nat → Int64} {k : Nat} {s : Nat} (h : am_Run am_X0 (am_meth d) 166 R 2 [some (.ref 113), some (.int (nI k)), some (.int (nI s)), some (.int 0)] [] (am_mk I L, 0, 0)) : am_Run am_X0 (am_meth d) 166 R 0 [some (.ref 113), some (.int (nI k)), some (.int (nI s)), none] [] (am_mk I L, 0, 0) := by
  refine ar_iconst (v := 0) (q := 1) rfl rfl rfl ?_
  refine ar_istore_n (j := 3) (ls' := [some (.ref 113), some (.int (nI k)), some (.int (nI s)), some (.int 0)]) (q := 2) rfl rfl rfl rfl rfl ?_
  exact am_Run.weak (ls' := _) (by exact ⟨rfl, ⟨rfl, ⟨rfl, ⟨rfl, trivial⟩⟩⟩⟩) h
theorem r_M_meets_2 {d : Nat} (hd : 1 ≤ d) {R : am_R} {I : Nat → Nat → Int32} {L : Nat → Nat → Int64} {k : Nat} {s : Nat} {j : Nat} (h : (((nI j) < (I 113 14) → ((((nI j) = (nI s) → (am_Run am_X0 (am_meth d) 166 R 2 [some (.ref 113), some (.int (nI k)), some (.int (nI s)), some (.int (nI (j + 1)))] [] (am_mk I L, 0, 0))) ∧ (¬ (nI j) = (nI s) → ((j < 60) ∧ (((I 128 j = 1 ∧ I 129 j = (nI k) → (j < 60 ∧ (s < 60 ∧ ((((I 126 j) ≤ (I 127 s) → ((((I 127 j) < (I 126 s) → (am_Run am_X0 (am_meth d) 166 R 2 [some (.ref 113), some (.int (nI k)), some (.int (nI s)), some (.int (nI (j + 1)))] [] (am_mk I L, 0, 0))) ∧ (¬ (I 127 j) < (I 126 s) → (R (some (.int 1)) (am_mk I L, 0, 0)))))) ∧ (¬ (I 126 j) ≤ (I 127 s) → (am_Run am_X0 (am_meth d) 166 R 2 [some (.ref 113), some (.int (nI k)), some (.int (nI s)), some (.int (nI (j + 1)))] [] (am_mk I L, 0, 0)))))))) ∧ (¬ (I 128 j = 1 ∧ I 129 j = (nI k)) → (am_Run am_X0 (am_meth d) 166 R 2 [some (.ref 113), some (.int (nI k)), some (.int (nI s)), some (.int (nI (j + 1)))] [] (am_mk I L, 0, 0)))))))))) ∧ (¬ (nI j) < (I 113 14) → (R (some (.int 0)) (am_mk I L, 0, 0))))) : am_Run am_X0 (am_meth d) 166 R 2 [some (.ref 113), some (.int (nI k)), some (.int (nI s)), some (.int (nI j))] [] (am_mk I L, 0, 0) := by
  refine ar_iload_n (j := 3) (q := 3) rfl rfl rfl rfl ?_
  refine ar_aload_n (j := 0) (q := 4) rfl rfl rfl rfl ?_
  refine ar_getf (v := .int (I 113 14)) (q := 7) rfl rfl mk_113 rfl rfl ?_
  obtain ⟨hA, hB⟩ := h
  refine ar_br am_d_ge (t := 62) (q := 10) rfl rfl rfl (fun c_1 => ?_) (fun c_1 => ?_)
  · have h := hB c_1
    clear hA hB
    refine ar_iconst (v := 0) (q := 63) rfl rfl rfl ?_
    exact ar_zret rfl rfl (Or.inl rfl) h
  · have c_1 := Classical.not_not.mp c_1
    have h := hA c_1
    clear hA hB
    refine ar_iload_n (j := 3) (q := 11) rfl rfl rfl rfl ?_
    refine ar_iload_n (j := 2) (q := 12) rfl rfl rfl rfl ?_
    obtain ⟨hA, hB⟩ := h
    refine ar_br am_c_eq (t := 56) (q := 15) rfl rfl rfl (fun c_2 => ?_) (fun c_2 => ?_)
    · have h := hA c_2
      clear hA hB
      refine ar_iinc (v := nI (j + 1)) (ls' := [some (.ref 113), some (.int (nI k)), some (.int (nI s)), some (.int (nI (j + 1)))]) (q := 59) rfl rfl rfl (nI_1 _) rfl rfl ?_
      refine ar_goto (t := 2) rfl rfl ?_
      exact am_Run.weak (ls' := _) (by exact ⟨rfl, ⟨rfl, ⟨rfl, ⟨rfl, trivial⟩⟩⟩⟩) h
    · have h := hB c_2
      clear hA hB
      refine ar_aload_n (j := 0) (q := 16) rfl rfl rfl rfl ?_
      refine ar_iload_n (j := 1) (q := 17) rfl rfl rfl rfl ?_
      refine ar_iload_n (j := 3) (q := 18) rfl rfl rfl rfl ?_
      refine ar_invv (as := [.int (nI k), .int (nI j)]) (rest := []) (b2 := (0, 0)) (b3 := (0, 0)) (q := 21) rfl rfl rfl rfl mk_113 rfl rfl rfl rfl rfl ?_
      obtain ⟨hp_4, h⟩ := h
      obtain ⟨hA, hB⟩ := h
      refine ok_M_has (by omega) rfl hp_4 (fun c_3 => ?_) (fun c_3 => ?_)
      · have h := hA c_3
        clear hA hB
        show am_Run am_X0 (am_meth d) 166 R 21 [some (.ref 113), some (.int (nI k)), some (.int (nI s)), some (.int (nI j))] [.int 1] (am_mk I L, 0, 0)
        refine ar_b0 am_c_eq (t := 56) (q := 24) rfl rfl rfl (fun c9 => absurd c9 (by decide)) (fun _ => ?_)
        refine ar_aload_n (j := 0) (q := 25) rfl rfl rfl rfl ?_
        refine ar_getf (v := .ref 126) (q := 28) rfl rfl mk_113 rfl rfl ?_
        refine ar_iload_n (j := 3) (q := 29) rfl rfl rfl rfl ?_
        obtain ⟨hx_5, h⟩ := h
        refine ar_iald (v := I 126 j) (q := 30) rfl mk_126 (am_inE rfl hx_5 (by decide)) (am_clE rfl hx_5 (by decide)) rfl ?_
        refine ar_aload_n (j := 0) (q := 31) rfl rfl rfl rfl ?_
        refine ar_getf (v := .ref 127) (q := 34) rfl rfl mk_113 rfl rfl ?_
        refine ar_iload_n (j := 2) (q := 35) rfl rfl rfl rfl ?_
        obtain ⟨hx_6, h⟩ := h
        refine ar_iald (v := I 127 s) (q := 36) rfl mk_127 (am_inE rfl hx_6 (by decide)) (am_clE rfl hx_6 (by decide)) rfl ?_
        obtain ⟨hA, hB⟩ := h
        refine ar_br am_d_gt (t := 56) (q := 39) rfl rfl rfl (fun c_7 => ?_) (fun c_7 => ?_)
        · have h := hB c_7
          clear hA hB
          refine ar_iinc (v := nI (j + 1)) (ls' := [some (.ref 113), some (.int (nI k)), some (.int (nI s)), some (.int (nI (j + 1)))]) (q := 59) rfl rfl rfl (nI_1 _) rfl rfl ?_
          refine ar_goto (t := 2) rfl rfl ?_
          exact am_Run.weak (ls' := _) (by exact ⟨rfl, ⟨rfl, ⟨rfl, ⟨rfl, trivial⟩⟩⟩⟩) h
        · have c_7 := Classical.not_not.mp c_7
          have h := hA c_7
          clear hA hB
          refine ar_aload_n (j := 0) (q := 40) rfl rfl rfl rfl ?_
          refine ar_getf (v := .ref 127) (q := 43) rfl rfl mk_113 rfl rfl ?_
          refine ar_iload_n (j := 3) (q := 44) rfl rfl rfl rfl ?_
          refine ar_iald (v := I 127 j) (q := 45) rfl mk_127 (am_inE rfl hx_5 (by decide)) (am_clE rfl hx_5 (by decide)) rfl ?_
          refine ar_aload_n (j := 0) (q := 46) rfl rfl rfl rfl ?_
          refine ar_getf (v := .ref 126) (q := 49) rfl rfl mk_113 rfl rfl ?_
          refine ar_iload_n (j := 2) (q := 50) rfl rfl rfl rfl ?_
          refine ar_iald (v := I 126 s) (q := 51) rfl mk_126 (am_inE rfl hx_6 (by decide)) (am_clE rfl hx_6 (by decide)) rfl ?_
          obtain ⟨hA, hB⟩ := h
          refine ar_br am_c_lt (t := 56) (q := 54) rfl rfl rfl (fun c_8 => ?_) (fun c_8 => ?_)
          · have h := hA c_8
            clear hA hB
            refine ar_iinc (v := nI (j + 1)) (ls' := [some (.ref 113), some (.int (nI k)), some (.int (nI s)), some (.int (nI (j + 1)))]) (q := 59) rfl rfl rfl (nI_1 _) rfl rfl ?_
            refine ar_goto (t := 2) rfl rfl ?_
            exact am_Run.weak (ls' := _) (by exact ⟨rfl, ⟨rfl, ⟨rfl, ⟨rfl, trivial⟩⟩⟩⟩) h
          · have h := hB c_8
            clear hA hB
            refine ar_iconst (v := 1) (q := 55) rfl rfl rfl ?_
            exact ar_zret rfl rfl (Or.inr rfl) h
      · have h := hB c_3
        clear hA hB
        show am_Run am_X0 (am_meth d) 166 R 21 [some (.ref 113), some (.int (nI k)), some (.int (nI s)), some (.int (nI j))] [.int 0] (am_mk I L, 0, 0)
        refine ar_b0 am_c_eq (t := 56) (q := 24) rfl rfl rfl (fun _ => ?_) (fun c9 => absurd (by decide) c9)
        refine ar_iinc (v := nI (j + 1)) (ls' := [some (.ref 113), some (.int (nI k)), some (.int (nI s)), some (.int (nI (j + 1)))]) (q := 59) rfl rfl rfl (nI_1 _) rfl rfl ?_
        refine ar_goto (t := 2) rfl rfl ?_
        exact am_Run.weak (ls' := _) (by exact ⟨rfl, ⟨rfl, ⟨rfl, ⟨rfl, trivial⟩⟩⟩⟩) h
theorem r_M_isLate_0 {d : Nat} {R : am_R} {I : Nat → Nat → Int32} {L : Nat → Nat → Int64} {k : Nat} {s : Nat} (h : am_Run am_X0 (am_meth d) 168 R 8 [some (.ref 113), some (.int (nI k)), some (.int (nI s)), some (.int (-1 : Int32)), some (.int (-1 : Int32)), some (.int 0)] [] (am_mk I L, 0, 0)) : am_Run am_X0 (am_meth d) 168 R 0 [some (.ref 113), some (.int (nI k)), some (.int (nI s)), none, none, none] [] (am_mk I L, 0, 0) := by
  refine ar_iconst (v := (-1 : Int32)) (q := 1) rfl rfl rfl ?_
  refine ar_istore_n (j := 3) (ls' := [some (.ref 113), some (.int (nI k)), some (.int (nI s)), some (.int (-1 : Int32)), none, none]) (q := 2) rfl rfl rfl rfl rfl ?_
  refine ar_iconst (v := (-1 : Int32)) (q := 3) rfl rfl rfl ?_
  refine ar_istore (ls' := [some (.ref 113), some (.int (nI k)), some (.int (nI s)), some (.int (-1 : Int32)), some (.int (-1 : Int32)), none]) (q := 5) rfl rfl rfl rfl ?_
  refine ar_iconst (v := 0) (q := 6) rfl rfl rfl ?_
  refine ar_istore (ls' := [some (.ref 113), some (.int (nI k)), some (.int (nI s)), some (.int (-1 : Int32)), some (.int (-1 : Int32)), some (.int 0)]) (q := 8) rfl rfl rfl rfl ?_
  exact am_Run.weak (ls' := _) (by exact ⟨rfl, ⟨rfl, ⟨rfl, ⟨rfl, ⟨rfl, ⟨rfl, trivial⟩⟩⟩⟩⟩⟩) h
theorem r_M_isLate_8 {d : Nat} (hd : 1 ≤ d) {R : am_R} {I : Nat → Nat → Int32} {L : Nat → Nat → Int64} {k : Nat} {s : Nat} {p : Int32} {q : Int32} {j : Nat} (h : (((nI j) < (I 113 14) → ((((nI j) = (nI s) → (am_Run am_X0 (am_meth d) 168 R 8 [some (.ref 113), some (.int (nI k)), some (.int (nI s)), some (.int p), some (.int q), some (.int (nI (j + 1)))] [] (am_mk I L, 0, 0))) ∧ (¬ (nI j) = (nI s) → ((j < 60) ∧ (((I 128 j = 1 ∧ I 129 j = (nI k) → (j < 60 ∧ (s < 60 ∧ ((((I 127 j) < (I 126 s) → (((p < 0 → ((((I 126 j) ≤ (I 127 s) → (am_Run am_X0 (am_meth d) 168 R 8 [some (.ref 113), some (.int (nI k)), some (.int (nI s)), some (.int (nI j)), some (.int q), some (.int (nI (j + 1)))] [] (am_mk I L, 0, 0))) ∧ (¬ (I 126 j) ≤ (I 127 s) → (((q < 0 → (am_Run am_X0 (am_meth d) 168 R 8 [some (.ref 113), some (.int (nI k)), some (.int (nI s)), some (.int (nI j)), some (.int (nI j)), some (.int (nI (j + 1)))] [] (am_mk I L, 0, 0))) ∧ (¬ q < 0 → (∃ j_11 : Nat, j_11 < 60 ∧ q = nI j_11 ∧ ((((I 126 j) < (I 126 j_11) → (am_Run am_X0 (am_meth d) 168 R 8 [some (.ref 113), some (.int (nI k)), some (.int (nI s)), some (.int (nI j)), some (.int (nI j)), some (.int (nI (j + 1)))] [] (am_mk I L, 0, 0))) ∧ (¬ (I 126 j) < (I 126 j_11) → (am_Run am_X0 (am_meth d) 168 R 8 [some (.ref 113), some (.int (nI k)), some (.int (nI s)), some (.int (nI j)), some (.int q), some (.int (nI (j + 1)))] [] (am_mk I L, 0, 0))))))))))))) ∧ (¬ p < 0 → (∃ j_15 : Nat, j_15 < 60 ∧ p = nI j_15 ∧ ((((I 127 j) ≤ (I 127 j_15) → ((((I 126 j) ≤ (I 127 s) → (am_Run am_X0 (am_meth d) 168 R 8 [some (.ref 113), some (.int (nI k)), some (.int (nI s)), some (.int p), some (.int q), some (.int (nI (j + 1)))] [] (am_mk I L, 0, 0))) ∧ (¬ (I 126 j) ≤ (I 127 s) → (((q < 0 → (am_Run am_X0 (am_meth d) 168 R 8 [some (.ref 113), some (.int (nI k)), some (.int (nI s)), some (.int p), some (.int (nI j)), some (.int (nI (j + 1)))] [] (am_mk I L, 0, 0))) ∧ (¬ q < 0 → (∃ j_21 : Nat, j_21 < 60 ∧ q = nI j_21 ∧ ((((I 126 j) < (I 126 j_21) → (am_Run am_X0 (am_meth d) 168 R 8 [some (.ref 113), some (.int (nI k)), some (.int (nI s)), some (.int p), some (.int (nI j)), some (.int (nI (j + 1)))] [] (am_mk I L, 0, 0))) ∧ (¬ (I 126 j) < (I 126 j_21) → (am_Run am_X0 (am_meth d) 168 R 8 [some (.ref 113), some (.int (nI k)), some (.int (nI s)), some (.int p), some (.int q), some (.int (nI (j + 1)))] [] (am_mk I L, 0, 0))))))))))))) ∧ (¬ (I 127 j) ≤ (I 127 j_15) → ((((I 126 j) ≤ (I 127 s) → (am_Run am_X0 (am_meth d) 168 R 8 [some (.ref 113), some (.int (nI k)), some (.int (nI s)), some (.int (nI j)), some (.int q), some (.int (nI (j + 1)))] [] (am_mk I L, 0, 0))) ∧ (¬ (I 126 j) ≤ (I 127 s) → (((q < 0 → (am_Run am_X0 (am_meth d) 168 R 8 [some (.ref 113), some (.int (nI k)), some (.int (nI s)), some (.int (nI j)), some (.int (nI j)), some (.int (nI (j + 1)))] [] (am_mk I L, 0, 0))) ∧ (¬ q < 0 → (∃ j_27 : Nat, j_27 < 60 ∧ q = nI j_27 ∧ ((((I 126 j) < (I 126 j_27) → (am_Run am_X0 (am_meth d) 168 R 8 [some (.ref 113), some (.int (nI k)), some (.int (nI s)), some (.int (nI j)), some (.int (nI j)), some (.int (nI (j + 1)))] [] (am_mk I L, 0, 0))) ∧ (¬ (I 126 j) < (I 126 j_27) → (am_Run am_X0 (am_meth d) 168 R 8 [some (.ref 113), some (.int (nI k)), some (.int (nI s)), some (.int (nI j)), some (.int q), some (.int (nI (j + 1)))] [] (am_mk I L, 0, 0)))))))))))))))))))) ∧ (¬ (I 127 j) < (I 126 s) → ((((I 126 j) ≤ (I 127 s) → (am_Run am_X0 (am_meth d) 168 R 8 [some (.ref 113), some (.int (nI k)), some (.int (nI s)), some (.int p), some (.int q), some (.int (nI (j + 1)))] [] (am_mk I L, 0, 0))) ∧ (¬ (I 126 j) ≤ (I 127 s) → (((q < 0 → (am_Run am_X0 (am_meth d) 168 R 8 [some (.ref 113), some (.int (nI k)), some (.int (nI s)), some (.int p), some (.int (nI j)), some (.int (nI (j + 1)))] [] (am_mk I L, 0, 0))) ∧ (¬ q < 0 → (∃ j_33 : Nat, j_33 < 60 ∧ q = nI j_33 ∧ ((((I 126 j) < (I 126 j_33) → (am_Run am_X0 (am_meth d) 168 R 8 [some (.ref 113), some (.int (nI k)), some (.int (nI s)), some (.int p), some (.int (nI j)), some (.int (nI (j + 1)))] [] (am_mk I L, 0, 0))) ∧ (¬ (I 126 j) < (I 126 j_33) → (am_Run am_X0 (am_meth d) 168 R 8 [some (.ref 113), some (.int (nI k)), some (.int (nI s)), some (.int p), some (.int q), some (.int (nI (j + 1)))] [] (am_mk I L, 0, 0)))))))))))))))))) ∧ (¬ (I 128 j = 1 ∧ I 129 j = (nI k)) → (am_Run am_X0 (am_meth d) 168 R 8 [some (.ref 113), some (.int (nI k)), some (.int (nI s)), some (.int p), some (.int q), some (.int (nI (j + 1)))] [] (am_mk I L, 0, 0)))))))))) ∧ (¬ (nI j) < (I 113 14) → ((s < 60) ∧ ((am_ix I 125 s 20) ∧ (((p < 0 → (k < 20 ∧ (s < 60 ∧ (∃ j_42 : Nat, I 117 k = nI j_42 ∧ (∃ j_44 : Nat, I 122 (am_n I 125 s) = nI j_44 ∧ ((j_42 < 10) ∧ ((j_44 < 10) ∧ (((((I 126 s) - (I 113 0)) < (I 115 (10 * j_42 + j_44) + 23) / 24 → (R (some (.int 1)) (am_mk I L, 0, 0))) ∧ (¬ (((I 126 s) - (I 113 0)) < (I 115 (10 * j_42 + j_44) + 23) / 24) → (((q < 0 → (R (some (.int 0)) (am_mk I L, 0, 0))) ∧ (¬ q < 0 → (∃ j_50 : Nat, q = nI j_50 ∧ ((j_50 < 60) ∧ ((am_ix I 125 j_50 20) ∧ (∃ j_54 : Nat, j_54 < 60 ∧ q = nI j_54 ∧ (∃ j_57 : Nat, I 122 (am_n I 125 s) = nI j_57 ∧ (∃ j_59 : Nat, I 122 (am_n I 125 j_50) = nI j_59 ∧ ((j_57 < 10) ∧ ((j_59 < 10) ∧ (((((I 126 j_54) - (I 127 s)) < (I 115 (10 * j_57 + j_59) + 23) / 24 → (R (some (.int 1)) (am_mk I L, 0, 0))) ∧ (¬ (((I 126 j_54) - (I 127 s)) < (I 115 (10 * j_57 + j_59) + 23) / 24) → (R (some (.int 0)) (am_mk I L, 0, 0)))))))))))))))))))))))))) ∧ (¬ p < 0 → (∃ j_64 : Nat, p = nI j_64 ∧ ((j_64 < 60) ∧ ((am_ix I 125 j_64 20) ∧ (s < 60 ∧ (∃ j_69 : Nat, j_69 < 60 ∧ p = nI j_69 ∧ (∃ j_72 : Nat, I 122 (am_n I 125 j_64) = nI j_72 ∧ (∃ j_74 : Nat, I 122 (am_n I 125 s) = nI j_74 ∧ ((j_72 < 10) ∧ ((j_74 < 10) ∧ (((((I 126 s) - (I 127 j_69)) < (I 115 (10 * j_72 + j_74) + 23) / 24 → (R (some (.int 1)) (am_mk I L, 0, 0))) ∧ (¬ (((I 126 s) - (I 127 j_69)) < (I 115 (10 * j_72 + j_74) + 23) / 24) → (((q < 0 → (R (some (.int 0)) (am_mk I L, 0, 0))) ∧ (¬ q < 0 → (∃ j_80 : Nat, q = nI j_80 ∧ ((j_80 < 60) ∧ ((am_ix I 125 j_80 20) ∧ (∃ j_84 : Nat, j_84 < 60 ∧ q = nI j_84 ∧ (∃ j_87 : Nat, I 122 (am_n I 125 s) = nI j_87 ∧ (∃ j_89 : Nat, I 122 (am_n I 125 j_80) = nI j_89 ∧ ((j_87 < 10) ∧ ((j_89 < 10) ∧ (((((I 126 j_84) - (I 127 s)) < (I 115 (10 * j_87 + j_89) + 23) / 24 → (R (some (.int 1)) (am_mk I L, 0, 0))) ∧ (¬ (((I 126 j_84) - (I 127 s)) < (I 115 (10 * j_87 + j_89) + 23) / 24) → (R (some (.int 0)) (am_mk I L, 0, 0)))))))))))))))))))))))))))))))))))) : am_Run am_X0 (am_meth d) 168 R 8 [some (.ref 113), some (.int (nI k)), some (.int (nI s)), some (.int p), some (.int q), some (.int (nI j))] [] (am_mk I L, 0, 0) := by
  refine ar_iload (q := 10) rfl rfl rfl ?_
  refine ar_aload_n (j := 0) (q := 11) rfl rfl rfl rfl ?_
  refine ar_getf (v := .int (I 113 14)) (q := 14) rfl rfl mk_113 rfl rfl ?_
  obtain ⟨hA, hB⟩ := h
  refine ar_br am_d_ge (t := 123) (q := 17) rfl rfl rfl (fun c_1 => ?_) (fun c_1 => ?_)
  · have h := hB c_1
    clear hA hB
    refine ar_aload_n (j := 0) (q := 124) rfl rfl rfl rfl ?_
    refine ar_iload_n (j := 2) (q := 125) rfl rfl rfl rfl ?_
    refine ar_invv (as := [.int (nI s)]) (rest := []) (b2 := (0, 0)) (b3 := (0, 0)) (q := 128) rfl rfl rfl rfl mk_113 rfl rfl rfl rfl rfl ?_
    obtain ⟨hp_37, h⟩ := h
    obtain ⟨hp_38, h⟩ := h
    refine ok_M_townOf (by omega) rfl hp_37 hp_38 ?_
    show am_Run am_X0 (am_meth d) 168 R 128 [some (.ref 113), some (.int (nI k)), some (.int (nI s)), some (.int p), some (.int q), some (.int (nI j))] [.int (I 122 (am_n I 125 s))] (am_mk I L, 0, 0)
    refine ar_istore (ls' := [some (.ref 113), some (.int (nI k)), some (.int (nI s)), some (.int p), some (.int q), some (.int (I 122 (am_n I 125 s)))]) (q := 130) rfl rfl rfl rfl ?_
    refine ar_iload_n (j := 3) (q := 131) rfl rfl rfl rfl ?_
    obtain ⟨hA, hB⟩ := h
    refine ar_b0 am_d_ge (t := 162) (q := 134) rfl rfl rfl (fun c_39 => ?_) (fun c_39 => ?_)
    · have h := hB c_39
      clear hA hB
      refine ar_iload_n (j := 3) (q := 163) rfl rfl rfl rfl ?_
      refine ar_b0 am_c_lt (t := 195) (q := 166) rfl rfl rfl (fun c9 => absurd c9 c_39) (fun _ => ?_)
      refine ar_aload_n (j := 0) (q := 167) rfl rfl rfl rfl ?_
      refine ar_aload_n (j := 0) (q := 168) rfl rfl rfl rfl ?_
      refine ar_iload_n (j := 3) (q := 169) rfl rfl rfl rfl ?_
      refine ar_invv (as := [.int p]) (rest := [.ref 113]) (b2 := (0, 0)) (b3 := (0, 0)) (q := 172) rfl rfl rfl rfl mk_113 rfl rfl rfl rfl rfl ?_
      obtain ⟨j_64, hi_65, h⟩ := h
      obtain ⟨hp_66, h⟩ := h
      obtain ⟨hp_67, h⟩ := h
      refine ok_M_townOf (by omega) hi_65 hp_66 hp_67 ?_
      show am_Run am_X0 (am_meth d) 168 R 172 [some (.ref 113), some (.int (nI k)), some (.int (nI s)), some (.int p), some (.int q), some (.int (I 122 (am_n I 125 s)))] [.int (I 122 (am_n I 125 j_64)), .ref 113] (am_mk I L, 0, 0)
      refine ar_iload (q := 174) rfl rfl rfl ?_
      refine ar_aload_n (j := 0) (q := 175) rfl rfl rfl rfl ?_
      refine ar_getf (v := .ref 126) (q := 178) rfl rfl mk_113 rfl rfl ?_
      refine ar_iload_n (j := 2) (q := 179) rfl rfl rfl rfl ?_
      obtain ⟨hx_68, h⟩ := h
      refine ar_iald (v := I 126 s) (q := 180) rfl mk_126 (am_inE rfl hx_68 (by decide)) (am_clE rfl hx_68 (by decide)) rfl ?_
      refine ar_aload_n (j := 0) (q := 181) rfl rfl rfl rfl ?_
      refine ar_getf (v := .ref 127) (q := 184) rfl rfl mk_113 rfl rfl ?_
      refine ar_iload_n (j := 3) (q := 185) rfl rfl rfl rfl ?_
      obtain ⟨j_69, hx_70, hi_71, h⟩ := h
      refine ar_iald (v := I 127 j_69) (q := 186) rfl mk_127 (am_inE hi_71 hx_70 (by decide)) (am_clE hi_71 hx_70 (by decide)) rfl ?_
      refine ar_ib (i := .isub) (z := (I 126 s) - (I 127 j_69)) (q := 187) rfl rfl rfl rfl rfl ?_
      refine ar_invv (as := [.int (I 122 (am_n I 125 j_64)), .int (I 122 (am_n I 125 s)), .int ((I 126 s) - (I 127 j_69))]) (rest := []) (b2 := (0, 0)) (b3 := (0, 0)) (q := 190) rfl rfl rfl rfl mk_113 rfl rfl rfl rfl rfl ?_
      obtain ⟨j_72, hi_73, h⟩ := h
      obtain ⟨j_74, hi_75, h⟩ := h
      obtain ⟨hp_77, h⟩ := h
      obtain ⟨hp_78, h⟩ := h
      obtain ⟨hA, hB⟩ := h
      refine ok_M_isFar (by omega) hi_73 hi_75 hp_77 hp_78 (fun c_76 => ?_) (fun c_76 => ?_)
      · have h := hA c_76
        clear hA hB
        show am_Run am_X0 (am_meth d) 168 R 190 [some (.ref 113), some (.int (nI k)), some (.int (nI s)), some (.int p), some (.int q), some (.int (I 122 (am_n I 125 s)))] [.int 1] (am_mk I L, 0, 0)
        refine ar_b0 am_c_eq (t := 195) (q := 193) rfl rfl rfl (fun c9 => absurd c9 (by decide)) (fun _ => ?_)
        refine ar_iconst (v := 1) (q := 194) rfl rfl rfl ?_
        exact ar_zret rfl rfl (Or.inr rfl) h
      · have h := hB c_76
        clear hA hB
        show am_Run am_X0 (am_meth d) 168 R 190 [some (.ref 113), some (.int (nI k)), some (.int (nI s)), some (.int p), some (.int q), some (.int (I 122 (am_n I 125 s)))] [.int 0] (am_mk I L, 0, 0)
        refine ar_b0 am_c_eq (t := 195) (q := 193) rfl rfl rfl (fun _ => ?_) (fun c9 => absurd (by decide) c9)
        refine ar_iload (q := 197) rfl rfl rfl ?_
        obtain ⟨hA, hB⟩ := h
        refine ar_b0 am_c_lt (t := 233) (q := 200) rfl rfl rfl (fun c_79 => ?_) (fun c_79 => ?_)
        · have h := hA c_79
          clear hA hB
          refine ar_iconst (v := 0) (q := 234) rfl rfl rfl ?_
          exact ar_zret rfl rfl (Or.inl rfl) h
        · have h := hB c_79
          clear hA hB
          refine ar_aload_n (j := 0) (q := 201) rfl rfl rfl rfl ?_
          refine ar_iload (q := 203) rfl rfl rfl ?_
          refine ar_aload_n (j := 0) (q := 204) rfl rfl rfl rfl ?_
          refine ar_iload (q := 206) rfl rfl rfl ?_
          refine ar_invv (as := [.int q]) (rest := [.int (I 122 (am_n I 125 s)), .ref 113]) (b2 := (0, 0)) (b3 := (0, 0)) (q := 209) rfl rfl rfl rfl mk_113 rfl rfl rfl rfl rfl ?_
          obtain ⟨j_80, hi_81, h⟩ := h
          obtain ⟨hp_82, h⟩ := h
          obtain ⟨hp_83, h⟩ := h
          refine ok_M_townOf (by omega) hi_81 hp_82 hp_83 ?_
          show am_Run am_X0 (am_meth d) 168 R 209 [some (.ref 113), some (.int (nI k)), some (.int (nI s)), some (.int p), some (.int q), some (.int (I 122 (am_n I 125 s)))] [.int (I 122 (am_n I 125 j_80)), .int (I 122 (am_n I 125 s)), .ref 113] (am_mk I L, 0, 0)
          refine ar_aload_n (j := 0) (q := 210) rfl rfl rfl rfl ?_
          refine ar_getf (v := .ref 126) (q := 213) rfl rfl mk_113 rfl rfl ?_
          refine ar_iload (q := 215) rfl rfl rfl ?_
          obtain ⟨j_84, hx_85, hi_86, h⟩ := h
          refine ar_iald (v := I 126 j_84) (q := 216) rfl mk_126 (am_inE hi_86 hx_85 (by decide)) (am_clE hi_86 hx_85 (by decide)) rfl ?_
          refine ar_aload_n (j := 0) (q := 217) rfl rfl rfl rfl ?_
          refine ar_getf (v := .ref 127) (q := 220) rfl rfl mk_113 rfl rfl ?_
          refine ar_iload_n (j := 2) (q := 221) rfl rfl rfl rfl ?_
          refine ar_iald (v := I 127 s) (q := 222) rfl mk_127 (am_inE rfl hx_68 (by decide)) (am_clE rfl hx_68 (by decide)) rfl ?_
          refine ar_ib (i := .isub) (z := (I 126 j_84) - (I 127 s)) (q := 223) rfl rfl rfl rfl rfl ?_
          refine ar_invv (as := [.int (I 122 (am_n I 125 s)), .int (I 122 (am_n I 125 j_80)), .int ((I 126 j_84) - (I 127 s))]) (rest := []) (b2 := (0, 0)) (b3 := (0, 0)) (q := 226) rfl rfl rfl rfl mk_113 rfl rfl rfl rfl rfl ?_
          obtain ⟨j_87, hi_88, h⟩ := h
          obtain ⟨j_89, hi_90, h⟩ := h
          obtain ⟨hp_92, h⟩ := h
          obtain ⟨hp_93, h⟩ := h
          obtain ⟨hA, hB⟩ := h
          refine ok_M_isFar (by omega) hi_88 hi_90 hp_92 hp_93 (fun c_91 => ?_) (fun c_91 => ?_)
          · have h := hA c_91
            clear hA hB
            show am_Run am_X0 (am_meth d) 168 R 226 [some (.ref 113), some (.int (nI k)), some (.int (nI s)), some (.int p), some (.int q), some (.int (I 122 (am_n I 125 s)))] [.int 1] (am_mk I L, 0, 0)
            refine ar_b0 am_c_eq (t := 233) (q := 229) rfl rfl rfl (fun c9 => absurd c9 (by decide)) (fun _ => ?_)
            refine ar_iconst (v := 1) (q := 230) rfl rfl rfl ?_
            refine ar_goto (t := 234) rfl rfl ?_
            exact ar_zret rfl rfl (Or.inr rfl) h
          · have h := hB c_91
            clear hA hB
            show am_Run am_X0 (am_meth d) 168 R 226 [some (.ref 113), some (.int (nI k)), some (.int (nI s)), some (.int p), some (.int q), some (.int (I 122 (am_n I 125 s)))] [.int 0] (am_mk I L, 0, 0)
            refine ar_b0 am_c_eq (t := 233) (q := 229) rfl rfl rfl (fun _ => ?_) (fun c9 => absurd (by decide) c9)
            refine ar_iconst (v := 0) (q := 234) rfl rfl rfl ?_
            exact ar_zret rfl rfl (Or.inl rfl) h
    · have c_39 := Classical.not_not.mp c_39
      have h := hA c_39
      clear hA hB
      refine ar_aload_n (j := 0) (q := 135) rfl rfl rfl rfl ?_
      refine ar_aload_n (j := 0) (q := 136) rfl rfl rfl rfl ?_
      refine ar_getf (v := .ref 117) (q := 139) rfl rfl mk_113 rfl rfl ?_
      refine ar_iload_n (j := 1) (q := 140) rfl rfl rfl rfl ?_
      obtain ⟨hx_40, h⟩ := h
      refine ar_iald (v := I 117 k) (q := 141) rfl mk_117 (am_inE rfl hx_40 (by decide)) (am_clE rfl hx_40 (by decide)) rfl ?_
      refine ar_iload (q := 143) rfl rfl rfl ?_
      refine ar_aload_n (j := 0) (q := 144) rfl rfl rfl rfl ?_
      refine ar_getf (v := .ref 126) (q := 147) rfl rfl mk_113 rfl rfl ?_
      refine ar_iload_n (j := 2) (q := 148) rfl rfl rfl rfl ?_
      obtain ⟨hx_41, h⟩ := h
      refine ar_iald (v := I 126 s) (q := 149) rfl mk_126 (am_inE rfl hx_41 (by decide)) (am_clE rfl hx_41 (by decide)) rfl ?_
      refine ar_aload_n (j := 0) (q := 150) rfl rfl rfl rfl ?_
      refine ar_getf (v := .int (I 113 0)) (q := 153) rfl rfl mk_113 rfl rfl ?_
      refine ar_ib (i := .isub) (z := (I 126 s) - (I 113 0)) (q := 154) rfl rfl rfl rfl rfl ?_
      refine ar_invv (as := [.int (I 117 k), .int (I 122 (am_n I 125 s)), .int ((I 126 s) - (I 113 0))]) (rest := []) (b2 := (0, 0)) (b3 := (0, 0)) (q := 157) rfl rfl rfl rfl mk_113 rfl rfl rfl rfl rfl ?_
      obtain ⟨j_42, hi_43, h⟩ := h
      obtain ⟨j_44, hi_45, h⟩ := h
      obtain ⟨hp_47, h⟩ := h
      obtain ⟨hp_48, h⟩ := h
      obtain ⟨hA, hB⟩ := h
      refine ok_M_isFar (by omega) hi_43 hi_45 hp_47 hp_48 (fun c_46 => ?_) (fun c_46 => ?_)
      · have h := hA c_46
        clear hA hB
        show am_Run am_X0 (am_meth d) 168 R 157 [some (.ref 113), some (.int (nI k)), some (.int (nI s)), some (.int p), some (.int q), some (.int (I 122 (am_n I 125 s)))] [.int 1] (am_mk I L, 0, 0)
        refine ar_b0 am_c_eq (t := 162) (q := 160) rfl rfl rfl (fun c9 => absurd c9 (by decide)) (fun _ => ?_)
        refine ar_iconst (v := 1) (q := 161) rfl rfl rfl ?_
        exact ar_zret rfl rfl (Or.inr rfl) h
      · have h := hB c_46
        clear hA hB
        show am_Run am_X0 (am_meth d) 168 R 157 [some (.ref 113), some (.int (nI k)), some (.int (nI s)), some (.int p), some (.int q), some (.int (I 122 (am_n I 125 s)))] [.int 0] (am_mk I L, 0, 0)
        refine ar_b0 am_c_eq (t := 162) (q := 160) rfl rfl rfl (fun _ => ?_) (fun c9 => absurd (by decide) c9)
        refine ar_iload_n (j := 3) (q := 163) rfl rfl rfl rfl ?_
        refine ar_b0 am_c_lt (t := 195) (q := 166) rfl rfl rfl (fun _ => ?_) (fun c9 => absurd c_39 c9)
        refine ar_iload (q := 197) rfl rfl rfl ?_
        obtain ⟨hA, hB⟩ := h
        refine ar_b0 am_c_lt (t := 233) (q := 200) rfl rfl rfl (fun c_49 => ?_) (fun c_49 => ?_)
        · have h := hA c_49
          clear hA hB
          refine ar_iconst (v := 0) (q := 234) rfl rfl rfl ?_
          exact ar_zret rfl rfl (Or.inl rfl) h
        · have h := hB c_49
          clear hA hB
          refine ar_aload_n (j := 0) (q := 201) rfl rfl rfl rfl ?_
          refine ar_iload (q := 203) rfl rfl rfl ?_
          refine ar_aload_n (j := 0) (q := 204) rfl rfl rfl rfl ?_
          refine ar_iload (q := 206) rfl rfl rfl ?_
          refine ar_invv (as := [.int q]) (rest := [.int (I 122 (am_n I 125 s)), .ref 113]) (b2 := (0, 0)) (b3 := (0, 0)) (q := 209) rfl rfl rfl rfl mk_113 rfl rfl rfl rfl rfl ?_
          obtain ⟨j_50, hi_51, h⟩ := h
          obtain ⟨hp_52, h⟩ := h
          obtain ⟨hp_53, h⟩ := h
          refine ok_M_townOf (by omega) hi_51 hp_52 hp_53 ?_
          show am_Run am_X0 (am_meth d) 168 R 209 [some (.ref 113), some (.int (nI k)), some (.int (nI s)), some (.int p), some (.int q), some (.int (I 122 (am_n I 125 s)))] [.int (I 122 (am_n I 125 j_50)), .int (I 122 (am_n I 125 s)), .ref 113] (am_mk I L, 0, 0)
          refine ar_aload_n (j := 0) (q := 210) rfl rfl rfl rfl ?_
          refine ar_getf (v := .ref 126) (q := 213) rfl rfl mk_113 rfl rfl ?_
          refine ar_iload (q := 215) rfl rfl rfl ?_
          obtain ⟨j_54, hx_55, hi_56, h⟩ := h
          refine ar_iald (v := I 126 j_54) (q := 216) rfl mk_126 (am_inE hi_56 hx_55 (by decide)) (am_clE hi_56 hx_55 (by decide)) rfl ?_
          refine ar_aload_n (j := 0) (q := 217) rfl rfl rfl rfl ?_
          refine ar_getf (v := .ref 127) (q := 220) rfl rfl mk_113 rfl rfl ?_
          refine ar_iload_n (j := 2) (q := 221) rfl rfl rfl rfl ?_
          refine ar_iald (v := I 127 s) (q := 222) rfl mk_127 (am_inE rfl hx_41 (by decide)) (am_clE rfl hx_41 (by decide)) rfl ?_
          refine ar_ib (i := .isub) (z := (I 126 j_54) - (I 127 s)) (q := 223) rfl rfl rfl rfl rfl ?_
          refine ar_invv (as := [.int (I 122 (am_n I 125 s)), .int (I 122 (am_n I 125 j_50)), .int ((I 126 j_54) - (I 127 s))]) (rest := []) (b2 := (0, 0)) (b3 := (0, 0)) (q := 226) rfl rfl rfl rfl mk_113 rfl rfl rfl rfl rfl ?_
          obtain ⟨j_57, hi_58, h⟩ := h
          obtain ⟨j_59, hi_60, h⟩ := h
          obtain ⟨hp_62, h⟩ := h
          obtain ⟨hp_63, h⟩ := h
          obtain ⟨hA, hB⟩ := h
          refine ok_M_isFar (by omega) hi_58 hi_60 hp_62 hp_63 (fun c_61 => ?_) (fun c_61 => ?_)
          · have h := hA c_61
            clear hA hB
            show am_Run am_X0 (am_meth d) 168 R 226 [some (.ref 113), some (.int (nI k)), some (.int (nI s)), some (.int p), some (.int q), some (.int (I 122 (am_n I 125 s)))] [.int 1] (am_mk I L, 0, 0)
            refine ar_b0 am_c_eq (t := 233) (q := 229) rfl rfl rfl (fun c9 => absurd c9 (by decide)) (fun _ => ?_)
            refine ar_iconst (v := 1) (q := 230) rfl rfl rfl ?_
            refine ar_goto (t := 234) rfl rfl ?_
            exact ar_zret rfl rfl (Or.inr rfl) h
          · have h := hB c_61
            clear hA hB
            show am_Run am_X0 (am_meth d) 168 R 226 [some (.ref 113), some (.int (nI k)), some (.int (nI s)), some (.int p), some (.int q), some (.int (I 122 (am_n I 125 s)))] [.int 0] (am_mk I L, 0, 0)
            refine ar_b0 am_c_eq (t := 233) (q := 229) rfl rfl rfl (fun _ => ?_) (fun c9 => absurd (by decide) c9)
            refine ar_iconst (v := 0) (q := 234) rfl rfl rfl ?_
            exact ar_zret rfl rfl (Or.inl rfl) h
  · have c_1 := Classical.not_not.mp c_1
    have h := hA c_1
    clear hA hB
    refine ar_iload (q := 19) rfl rfl rfl ?_
    refine ar_iload_n (j := 2) (q := 20) rfl rfl rfl rfl ?_
    obtain ⟨hA, hB⟩ := h
    refine ar_br am_c_eq (t := 117) (q := 23) rfl rfl rfl (fun c_2 => ?_) (fun c_2 => ?_)
    · have h := hA c_2
      clear hA hB
      refine ar_iinc (v := nI (j + 1)) (ls' := [some (.ref 113), some (.int (nI k)), some (.int (nI s)), some (.int p), some (.int q), some (.int (nI (j + 1)))]) (q := 120) rfl rfl rfl (nI_1 _) rfl rfl ?_
      refine ar_goto (t := 8) rfl rfl ?_
      exact am_Run.weak (ls' := _) (by exact ⟨rfl, ⟨rfl, ⟨rfl, ⟨rfl, ⟨rfl, ⟨rfl, trivial⟩⟩⟩⟩⟩⟩) h
    · have h := hB c_2
      clear hA hB
      refine ar_aload_n (j := 0) (q := 24) rfl rfl rfl rfl ?_
      refine ar_iload_n (j := 1) (q := 25) rfl rfl rfl rfl ?_
      refine ar_iload (q := 27) rfl rfl rfl ?_
      refine ar_invv (as := [.int (nI k), .int (nI j)]) (rest := []) (b2 := (0, 0)) (b3 := (0, 0)) (q := 30) rfl rfl rfl rfl mk_113 rfl rfl rfl rfl rfl ?_
      obtain ⟨hp_4, h⟩ := h
      obtain ⟨hA, hB⟩ := h
      refine ok_M_has (by omega) rfl hp_4 (fun c_3 => ?_) (fun c_3 => ?_)
      · have h := hA c_3
        clear hA hB
        show am_Run am_X0 (am_meth d) 168 R 30 [some (.ref 113), some (.int (nI k)), some (.int (nI s)), some (.int p), some (.int q), some (.int (nI j))] [.int 1] (am_mk I L, 0, 0)
        refine ar_b0 am_c_ne (t := 36) (q := 33) rfl rfl rfl (fun _ => ?_) (fun c9 => absurd (by decide) c9)
        refine ar_aload_n (j := 0) (q := 37) rfl rfl rfl rfl ?_
        refine ar_getf (v := .ref 127) (q := 40) rfl rfl mk_113 rfl rfl ?_
        refine ar_iload (q := 42) rfl rfl rfl ?_
        obtain ⟨hx_5, h⟩ := h
        refine ar_iald (v := I 127 j) (q := 43) rfl mk_127 (am_inE rfl hx_5 (by decide)) (am_clE rfl hx_5 (by decide)) rfl ?_
        refine ar_aload_n (j := 0) (q := 44) rfl rfl rfl rfl ?_
        refine ar_getf (v := .ref 126) (q := 47) rfl rfl mk_113 rfl rfl ?_
        refine ar_iload_n (j := 2) (q := 48) rfl rfl rfl rfl ?_
        obtain ⟨hx_6, h⟩ := h
        refine ar_iald (v := I 126 s) (q := 49) rfl mk_126 (am_inE rfl hx_6 (by decide)) (am_clE rfl hx_6 (by decide)) rfl ?_
        obtain ⟨hA, hB⟩ := h
        refine ar_br am_d_ge (t := 75) (q := 52) rfl rfl rfl (fun c_7 => ?_) (fun c_7 => ?_)
        · have h := hB c_7
          clear hA hB
          refine ar_aload_n (j := 0) (q := 76) rfl rfl rfl rfl ?_
          refine ar_getf (v := .ref 126) (q := 79) rfl rfl mk_113 rfl rfl ?_
          refine ar_iload (q := 81) rfl rfl rfl ?_
          refine ar_iald (v := I 126 j) (q := 82) rfl mk_126 (am_inE rfl hx_5 (by decide)) (am_clE rfl hx_5 (by decide)) rfl ?_
          refine ar_aload_n (j := 0) (q := 83) rfl rfl rfl rfl ?_
          refine ar_getf (v := .ref 127) (q := 86) rfl rfl mk_113 rfl rfl ?_
          refine ar_iload_n (j := 2) (q := 87) rfl rfl rfl rfl ?_
          refine ar_iald (v := I 127 s) (q := 88) rfl mk_127 (am_inE rfl hx_6 (by decide)) (am_clE rfl hx_6 (by decide)) rfl ?_
          obtain ⟨hA, hB⟩ := h
          refine ar_br am_c_le (t := 117) (q := 91) rfl rfl rfl (fun c_31 => ?_) (fun c_31 => ?_)
          · have h := hA c_31
            clear hA hB
            refine ar_iinc (v := nI (j + 1)) (ls' := [some (.ref 113), some (.int (nI k)), some (.int (nI s)), some (.int p), some (.int q), some (.int (nI (j + 1)))]) (q := 120) rfl rfl rfl (nI_1 _) rfl rfl ?_
            refine ar_goto (t := 8) rfl rfl ?_
            exact am_Run.weak (ls' := _) (by exact ⟨rfl, ⟨rfl, ⟨rfl, ⟨rfl, ⟨rfl, ⟨rfl, trivial⟩⟩⟩⟩⟩⟩) h
          · have h := hB c_31
            clear hA hB
            refine ar_iload (q := 93) rfl rfl rfl ?_
            obtain ⟨hA, hB⟩ := h
            refine ar_b0 am_c_lt (t := 113) (q := 96) rfl rfl rfl (fun c_32 => ?_) (fun c_32 => ?_)
            · have h := hA c_32
              clear hA hB
              refine ar_iload (q := 115) rfl rfl rfl ?_
              refine ar_istore (ls' := [some (.ref 113), some (.int (nI k)), some (.int (nI s)), some (.int p), some (.int (nI j)), some (.int (nI j))]) (q := 117) rfl rfl rfl rfl ?_
              refine ar_iinc (v := nI (j + 1)) (ls' := [some (.ref 113), some (.int (nI k)), some (.int (nI s)), some (.int p), some (.int (nI j)), some (.int (nI (j + 1)))]) (q := 120) rfl rfl rfl (nI_1 _) rfl rfl ?_
              refine ar_goto (t := 8) rfl rfl ?_
              exact am_Run.weak (ls' := _) (by exact ⟨rfl, ⟨rfl, ⟨rfl, ⟨rfl, ⟨rfl, ⟨rfl, trivial⟩⟩⟩⟩⟩⟩) h
            · have h := hB c_32
              clear hA hB
              refine ar_aload_n (j := 0) (q := 97) rfl rfl rfl rfl ?_
              refine ar_getf (v := .ref 126) (q := 100) rfl rfl mk_113 rfl rfl ?_
              refine ar_iload (q := 102) rfl rfl rfl ?_
              refine ar_iald (v := I 126 j) (q := 103) rfl mk_126 (am_inE rfl hx_5 (by decide)) (am_clE rfl hx_5 (by decide)) rfl ?_
              refine ar_aload_n (j := 0) (q := 104) rfl rfl rfl rfl ?_
              refine ar_getf (v := .ref 126) (q := 107) rfl rfl mk_113 rfl rfl ?_
              refine ar_iload (q := 109) rfl rfl rfl ?_
              obtain ⟨j_33, hx_34, hi_35, h⟩ := h
              refine ar_iald (v := I 126 j_33) (q := 110) rfl mk_126 (am_inE hi_35 hx_34 (by decide)) (am_clE hi_35 hx_34 (by decide)) rfl ?_
              obtain ⟨hA, hB⟩ := h
              refine ar_br am_d_ge (t := 117) (q := 113) rfl rfl rfl (fun c_36 => ?_) (fun c_36 => ?_)
              · have h := hB c_36
                clear hA hB
                refine ar_iinc (v := nI (j + 1)) (ls' := [some (.ref 113), some (.int (nI k)), some (.int (nI s)), some (.int p), some (.int q), some (.int (nI (j + 1)))]) (q := 120) rfl rfl rfl (nI_1 _) rfl rfl ?_
                refine ar_goto (t := 8) rfl rfl ?_
                exact am_Run.weak (ls' := _) (by exact ⟨rfl, ⟨rfl, ⟨rfl, ⟨rfl, ⟨rfl, ⟨rfl, trivial⟩⟩⟩⟩⟩⟩) h
              · have c_36 := Classical.not_not.mp c_36
                have h := hA c_36
                clear hA hB
                refine ar_iload (q := 115) rfl rfl rfl ?_
                refine ar_istore (ls' := [some (.ref 113), some (.int (nI k)), some (.int (nI s)), some (.int p), some (.int (nI j)), some (.int (nI j))]) (q := 117) rfl rfl rfl rfl ?_
                refine ar_iinc (v := nI (j + 1)) (ls' := [some (.ref 113), some (.int (nI k)), some (.int (nI s)), some (.int p), some (.int (nI j)), some (.int (nI (j + 1)))]) (q := 120) rfl rfl rfl (nI_1 _) rfl rfl ?_
                refine ar_goto (t := 8) rfl rfl ?_
                exact am_Run.weak (ls' := _) (by exact ⟨rfl, ⟨rfl, ⟨rfl, ⟨rfl, ⟨rfl, ⟨rfl, trivial⟩⟩⟩⟩⟩⟩) h
        · have c_7 := Classical.not_not.mp c_7
          have h := hA c_7
          clear hA hB
          refine ar_iload_n (j := 3) (q := 53) rfl rfl rfl rfl ?_
          obtain ⟨hA, hB⟩ := h
          refine ar_b0 am_c_lt (t := 72) (q := 56) rfl rfl rfl (fun c_8 => ?_) (fun c_8 => ?_)
          · have h := hA c_8
            clear hA hB
            refine ar_iload (q := 74) rfl rfl rfl ?_
            refine ar_istore_n (j := 3) (ls' := [some (.ref 113), some (.int (nI k)), some (.int (nI s)), some (.int (nI j)), some (.int q), some (.int (nI j))]) (q := 75) rfl rfl rfl rfl rfl ?_
            refine ar_aload_n (j := 0) (q := 76) rfl rfl rfl rfl ?_
            refine ar_getf (v := .ref 126) (q := 79) rfl rfl mk_113 rfl rfl ?_
            refine ar_iload (q := 81) rfl rfl rfl ?_
            refine ar_iald (v := I 126 j) (q := 82) rfl mk_126 (am_inE rfl hx_5 (by decide)) (am_clE rfl hx_5 (by decide)) rfl ?_
            refine ar_aload_n (j := 0) (q := 83) rfl rfl rfl rfl ?_
            refine ar_getf (v := .ref 127) (q := 86) rfl rfl mk_113 rfl rfl ?_
            refine ar_iload_n (j := 2) (q := 87) rfl rfl rfl rfl ?_
            refine ar_iald (v := I 127 s) (q := 88) rfl mk_127 (am_inE rfl hx_6 (by decide)) (am_clE rfl hx_6 (by decide)) rfl ?_
            obtain ⟨hA, hB⟩ := h
            refine ar_br am_c_le (t := 117) (q := 91) rfl rfl rfl (fun c_9 => ?_) (fun c_9 => ?_)
            · have h := hA c_9
              clear hA hB
              refine ar_iinc (v := nI (j + 1)) (ls' := [some (.ref 113), some (.int (nI k)), some (.int (nI s)), some (.int (nI j)), some (.int q), some (.int (nI (j + 1)))]) (q := 120) rfl rfl rfl (nI_1 _) rfl rfl ?_
              refine ar_goto (t := 8) rfl rfl ?_
              exact am_Run.weak (ls' := _) (by exact ⟨rfl, ⟨rfl, ⟨rfl, ⟨rfl, ⟨rfl, ⟨rfl, trivial⟩⟩⟩⟩⟩⟩) h
            · have h := hB c_9
              clear hA hB
              refine ar_iload (q := 93) rfl rfl rfl ?_
              obtain ⟨hA, hB⟩ := h
              refine ar_b0 am_c_lt (t := 113) (q := 96) rfl rfl rfl (fun c_10 => ?_) (fun c_10 => ?_)
              · have h := hA c_10
                clear hA hB
                refine ar_iload (q := 115) rfl rfl rfl ?_
                refine ar_istore (ls' := [some (.ref 113), some (.int (nI k)), some (.int (nI s)), some (.int (nI j)), some (.int (nI j)), some (.int (nI j))]) (q := 117) rfl rfl rfl rfl ?_
                refine ar_iinc (v := nI (j + 1)) (ls' := [some (.ref 113), some (.int (nI k)), some (.int (nI s)), some (.int (nI j)), some (.int (nI j)), some (.int (nI (j + 1)))]) (q := 120) rfl rfl rfl (nI_1 _) rfl rfl ?_
                refine ar_goto (t := 8) rfl rfl ?_
                exact am_Run.weak (ls' := _) (by exact ⟨rfl, ⟨rfl, ⟨rfl, ⟨rfl, ⟨rfl, ⟨rfl, trivial⟩⟩⟩⟩⟩⟩) h
              · have h := hB c_10
                clear hA hB
                refine ar_aload_n (j := 0) (q := 97) rfl rfl rfl rfl ?_
                refine ar_getf (v := .ref 126) (q := 100) rfl rfl mk_113 rfl rfl ?_
                refine ar_iload (q := 102) rfl rfl rfl ?_
                refine ar_iald (v := I 126 j) (q := 103) rfl mk_126 (am_inE rfl hx_5 (by decide)) (am_clE rfl hx_5 (by decide)) rfl ?_
                refine ar_aload_n (j := 0) (q := 104) rfl rfl rfl rfl ?_
                refine ar_getf (v := .ref 126) (q := 107) rfl rfl mk_113 rfl rfl ?_
                refine ar_iload (q := 109) rfl rfl rfl ?_
                obtain ⟨j_11, hx_12, hi_13, h⟩ := h
                refine ar_iald (v := I 126 j_11) (q := 110) rfl mk_126 (am_inE hi_13 hx_12 (by decide)) (am_clE hi_13 hx_12 (by decide)) rfl ?_
                obtain ⟨hA, hB⟩ := h
                refine ar_br am_d_ge (t := 117) (q := 113) rfl rfl rfl (fun c_14 => ?_) (fun c_14 => ?_)
                · have h := hB c_14
                  clear hA hB
                  refine ar_iinc (v := nI (j + 1)) (ls' := [some (.ref 113), some (.int (nI k)), some (.int (nI s)), some (.int (nI j)), some (.int q), some (.int (nI (j + 1)))]) (q := 120) rfl rfl rfl (nI_1 _) rfl rfl ?_
                  refine ar_goto (t := 8) rfl rfl ?_
                  exact am_Run.weak (ls' := _) (by exact ⟨rfl, ⟨rfl, ⟨rfl, ⟨rfl, ⟨rfl, ⟨rfl, trivial⟩⟩⟩⟩⟩⟩) h
                · have c_14 := Classical.not_not.mp c_14
                  have h := hA c_14
                  clear hA hB
                  refine ar_iload (q := 115) rfl rfl rfl ?_
                  refine ar_istore (ls' := [some (.ref 113), some (.int (nI k)), some (.int (nI s)), some (.int (nI j)), some (.int (nI j)), some (.int (nI j))]) (q := 117) rfl rfl rfl rfl ?_
                  refine ar_iinc (v := nI (j + 1)) (ls' := [some (.ref 113), some (.int (nI k)), some (.int (nI s)), some (.int (nI j)), some (.int (nI j)), some (.int (nI (j + 1)))]) (q := 120) rfl rfl rfl (nI_1 _) rfl rfl ?_
                  refine ar_goto (t := 8) rfl rfl ?_
                  exact am_Run.weak (ls' := _) (by exact ⟨rfl, ⟨rfl, ⟨rfl, ⟨rfl, ⟨rfl, ⟨rfl, trivial⟩⟩⟩⟩⟩⟩) h
          · have h := hB c_8
            clear hA hB
            refine ar_aload_n (j := 0) (q := 57) rfl rfl rfl rfl ?_
            refine ar_getf (v := .ref 127) (q := 60) rfl rfl mk_113 rfl rfl ?_
            refine ar_iload (q := 62) rfl rfl rfl ?_
            refine ar_iald (v := I 127 j) (q := 63) rfl mk_127 (am_inE rfl hx_5 (by decide)) (am_clE rfl hx_5 (by decide)) rfl ?_
            refine ar_aload_n (j := 0) (q := 64) rfl rfl rfl rfl ?_
            refine ar_getf (v := .ref 127) (q := 67) rfl rfl mk_113 rfl rfl ?_
            refine ar_iload_n (j := 3) (q := 68) rfl rfl rfl rfl ?_
            obtain ⟨j_15, hx_16, hi_17, h⟩ := h
            refine ar_iald (v := I 127 j_15) (q := 69) rfl mk_127 (am_inE hi_17 hx_16 (by decide)) (am_clE hi_17 hx_16 (by decide)) rfl ?_
            obtain ⟨hA, hB⟩ := h
            refine ar_br am_c_le (t := 75) (q := 72) rfl rfl rfl (fun c_18 => ?_) (fun c_18 => ?_)
            · have h := hA c_18
              clear hA hB
              refine ar_aload_n (j := 0) (q := 76) rfl rfl rfl rfl ?_
              refine ar_getf (v := .ref 126) (q := 79) rfl rfl mk_113 rfl rfl ?_
              refine ar_iload (q := 81) rfl rfl rfl ?_
              refine ar_iald (v := I 126 j) (q := 82) rfl mk_126 (am_inE rfl hx_5 (by decide)) (am_clE rfl hx_5 (by decide)) rfl ?_
              refine ar_aload_n (j := 0) (q := 83) rfl rfl rfl rfl ?_
              refine ar_getf (v := .ref 127) (q := 86) rfl rfl mk_113 rfl rfl ?_
              refine ar_iload_n (j := 2) (q := 87) rfl rfl rfl rfl ?_
              refine ar_iald (v := I 127 s) (q := 88) rfl mk_127 (am_inE rfl hx_6 (by decide)) (am_clE rfl hx_6 (by decide)) rfl ?_
              obtain ⟨hA, hB⟩ := h
              refine ar_br am_c_le (t := 117) (q := 91) rfl rfl rfl (fun c_19 => ?_) (fun c_19 => ?_)
              · have h := hA c_19
                clear hA hB
                refine ar_iinc (v := nI (j + 1)) (ls' := [some (.ref 113), some (.int (nI k)), some (.int (nI s)), some (.int p), some (.int q), some (.int (nI (j + 1)))]) (q := 120) rfl rfl rfl (nI_1 _) rfl rfl ?_
                refine ar_goto (t := 8) rfl rfl ?_
                exact am_Run.weak (ls' := _) (by exact ⟨rfl, ⟨rfl, ⟨rfl, ⟨rfl, ⟨rfl, ⟨rfl, trivial⟩⟩⟩⟩⟩⟩) h
              · have h := hB c_19
                clear hA hB
                refine ar_iload (q := 93) rfl rfl rfl ?_
                obtain ⟨hA, hB⟩ := h
                refine ar_b0 am_c_lt (t := 113) (q := 96) rfl rfl rfl (fun c_20 => ?_) (fun c_20 => ?_)
                · have h := hA c_20
                  clear hA hB
                  refine ar_iload (q := 115) rfl rfl rfl ?_
                  refine ar_istore (ls' := [some (.ref 113), some (.int (nI k)), some (.int (nI s)), some (.int p), some (.int (nI j)), some (.int (nI j))]) (q := 117) rfl rfl rfl rfl ?_
                  refine ar_iinc (v := nI (j + 1)) (ls' := [some (.ref 113), some (.int (nI k)), some (.int (nI s)), some (.int p), some (.int (nI j)), some (.int (nI (j + 1)))]) (q := 120) rfl rfl rfl (nI_1 _) rfl rfl ?_
                  refine ar_goto (t := 8) rfl rfl ?_
                  exact am_Run.weak (ls' := _) (by exact ⟨rfl, ⟨rfl, ⟨rfl, ⟨rfl, ⟨rfl, ⟨rfl, trivial⟩⟩⟩⟩⟩⟩) h
                · have h := hB c_20
                  clear hA hB
                  refine ar_aload_n (j := 0) (q := 97) rfl rfl rfl rfl ?_
                  refine ar_getf (v := .ref 126) (q := 100) rfl rfl mk_113 rfl rfl ?_
                  refine ar_iload (q := 102) rfl rfl rfl ?_
                  refine ar_iald (v := I 126 j) (q := 103) rfl mk_126 (am_inE rfl hx_5 (by decide)) (am_clE rfl hx_5 (by decide)) rfl ?_
                  refine ar_aload_n (j := 0) (q := 104) rfl rfl rfl rfl ?_
                  refine ar_getf (v := .ref 126) (q := 107) rfl rfl mk_113 rfl rfl ?_
                  refine ar_iload (q := 109) rfl rfl rfl ?_
                  obtain ⟨j_21, hx_22, hi_23, h⟩ := h
                  refine ar_iald (v := I 126 j_21) (q := 110) rfl mk_126 (am_inE hi_23 hx_22 (by decide)) (am_clE hi_23 hx_22 (by decide)) rfl ?_
                  obtain ⟨hA, hB⟩ := h
                  refine ar_br am_d_ge (t := 117) (q := 113) rfl rfl rfl (fun c_24 => ?_) (fun c_24 => ?_)
                  · have h := hB c_24
                    clear hA hB
                    refine ar_iinc (v := nI (j + 1)) (ls' := [some (.ref 113), some (.int (nI k)), some (.int (nI s)), some (.int p), some (.int q), some (.int (nI (j + 1)))]) (q := 120) rfl rfl rfl (nI_1 _) rfl rfl ?_
                    refine ar_goto (t := 8) rfl rfl ?_
                    exact am_Run.weak (ls' := _) (by exact ⟨rfl, ⟨rfl, ⟨rfl, ⟨rfl, ⟨rfl, ⟨rfl, trivial⟩⟩⟩⟩⟩⟩) h
                  · have c_24 := Classical.not_not.mp c_24
                    have h := hA c_24
                    clear hA hB
                    refine ar_iload (q := 115) rfl rfl rfl ?_
                    refine ar_istore (ls' := [some (.ref 113), some (.int (nI k)), some (.int (nI s)), some (.int p), some (.int (nI j)), some (.int (nI j))]) (q := 117) rfl rfl rfl rfl ?_
                    refine ar_iinc (v := nI (j + 1)) (ls' := [some (.ref 113), some (.int (nI k)), some (.int (nI s)), some (.int p), some (.int (nI j)), some (.int (nI (j + 1)))]) (q := 120) rfl rfl rfl (nI_1 _) rfl rfl ?_
                    refine ar_goto (t := 8) rfl rfl ?_
                    exact am_Run.weak (ls' := _) (by exact ⟨rfl, ⟨rfl, ⟨rfl, ⟨rfl, ⟨rfl, ⟨rfl, trivial⟩⟩⟩⟩⟩⟩) h
            · have h := hB c_18
              clear hA hB
              refine ar_iload (q := 74) rfl rfl rfl ?_
              refine ar_istore_n (j := 3) (ls' := [some (.ref 113), some (.int (nI k)), some (.int (nI s)), some (.int (nI j)), some (.int q), some (.int (nI j))]) (q := 75) rfl rfl rfl rfl rfl ?_
              refine ar_aload_n (j := 0) (q := 76) rfl rfl rfl rfl ?_
              refine ar_getf (v := .ref 126) (q := 79) rfl rfl mk_113 rfl rfl ?_
              refine ar_iload (q := 81) rfl rfl rfl ?_
              refine ar_iald (v := I 126 j) (q := 82) rfl mk_126 (am_inE rfl hx_5 (by decide)) (am_clE rfl hx_5 (by decide)) rfl ?_
              refine ar_aload_n (j := 0) (q := 83) rfl rfl rfl rfl ?_
              refine ar_getf (v := .ref 127) (q := 86) rfl rfl mk_113 rfl rfl ?_
              refine ar_iload_n (j := 2) (q := 87) rfl rfl rfl rfl ?_
              refine ar_iald (v := I 127 s) (q := 88) rfl mk_127 (am_inE rfl hx_6 (by decide)) (am_clE rfl hx_6 (by decide)) rfl ?_
              obtain ⟨hA, hB⟩ := h
              refine ar_br am_c_le (t := 117) (q := 91) rfl rfl rfl (fun c_25 => ?_) (fun c_25 => ?_)
              · have h := hA c_25
                clear hA hB
                refine ar_iinc (v := nI (j + 1)) (ls' := [some (.ref 113), some (.int (nI k)), some (.int (nI s)), some (.int (nI j)), some (.int q), some (.int (nI (j + 1)))]) (q := 120) rfl rfl rfl (nI_1 _) rfl rfl ?_
                refine ar_goto (t := 8) rfl rfl ?_
                exact am_Run.weak (ls' := _) (by exact ⟨rfl, ⟨rfl, ⟨rfl, ⟨rfl, ⟨rfl, ⟨rfl, trivial⟩⟩⟩⟩⟩⟩) h
              · have h := hB c_25
                clear hA hB
                refine ar_iload (q := 93) rfl rfl rfl ?_
                obtain ⟨hA, hB⟩ := h
                refine ar_b0 am_c_lt (t := 113) (q := 96) rfl rfl rfl (fun c_26 => ?_) (fun c_26 => ?_)
                · have h := hA c_26
                  clear hA hB
                  refine ar_iload (q := 115) rfl rfl rfl ?_
                  refine ar_istore (ls' := [some (.ref 113), some (.int (nI k)), some (.int (nI s)), some (.int (nI j)), some (.int (nI j)), some (.int (nI j))]) (q := 117) rfl rfl rfl rfl ?_
                  refine ar_iinc (v := nI (j + 1)) (ls' := [some (.ref 113), some (.int (nI k)), some (.int (nI s)), some (.int (nI j)), some (.int (nI j)), some (.int (nI (j + 1)))]) (q := 120) rfl rfl rfl (nI_1 _) rfl rfl ?_
                  refine ar_goto (t := 8) rfl rfl ?_
                  exact am_Run.weak (ls' := _) (by exact ⟨rfl, ⟨rfl, ⟨rfl, ⟨rfl, ⟨rfl, ⟨rfl, trivial⟩⟩⟩⟩⟩⟩) h
                · have h := hB c_26
                  clear hA hB
                  refine ar_aload_n (j := 0) (q := 97) rfl rfl rfl rfl ?_
                  refine ar_getf (v := .ref 126) (q := 100) rfl rfl mk_113 rfl rfl ?_
                  refine ar_iload (q := 102) rfl rfl rfl ?_
                  refine ar_iald (v := I 126 j) (q := 103) rfl mk_126 (am_inE rfl hx_5 (by decide)) (am_clE rfl hx_5 (by decide)) rfl ?_
                  refine ar_aload_n (j := 0) (q := 104) rfl rfl rfl rfl ?_
                  refine ar_getf (v := .ref 126) (q := 107) rfl rfl mk_113 rfl rfl ?_
                  refine ar_iload (q := 109) rfl rfl rfl ?_
                  obtain ⟨j_27, hx_28, hi_29, h⟩ := h
                  refine ar_iald (v := I 126 j_27) (q := 110) rfl mk_126 (am_inE hi_29 hx_28 (by decide)) (am_clE hi_29 hx_28 (by decide)) rfl ?_
                  obtain ⟨hA, hB⟩ := h
                  refine ar_br am_d_ge (t := 117) (q := 113) rfl rfl rfl (fun c_30 => ?_) (fun c_30 => ?_)
                  · have h := hB c_30
                    clear hA hB
                    refine ar_iinc (v := nI (j + 1)) (ls' := [some (.ref 113), some (.int (nI k)), some (.int (nI s)), some (.int (nI j)), some (.int q), some (.int (nI (j + 1)))]) (q := 120) rfl rfl rfl (nI_1 _) rfl rfl ?_
                    refine ar_goto (t := 8) rfl rfl ?_
                    exact am_Run.weak (ls' := _) (by exact ⟨rfl, ⟨rfl, ⟨rfl, ⟨rfl, ⟨rfl, ⟨rfl, trivial⟩⟩⟩⟩⟩⟩) h
                  · have c_30 := Classical.not_not.mp c_30
                    have h := hA c_30
                    clear hA hB
                    refine ar_iload (q := 115) rfl rfl rfl ?_
                    refine ar_istore (ls' := [some (.ref 113), some (.int (nI k)), some (.int (nI s)), some (.int (nI j)), some (.int (nI j)), some (.int (nI j))]) (q := 117) rfl rfl rfl rfl ?_
                    refine ar_iinc (v := nI (j + 1)) (ls' := [some (.ref 113), some (.int (nI k)), some (.int (nI s)), some (.int (nI j)), some (.int (nI j)), some (.int (nI (j + 1)))]) (q := 120) rfl rfl rfl (nI_1 _) rfl rfl ?_
                    refine ar_goto (t := 8) rfl rfl ?_
                    exact am_Run.weak (ls' := _) (by exact ⟨rfl, ⟨rfl, ⟨rfl, ⟨rfl, ⟨rfl, ⟨rfl, trivial⟩⟩⟩⟩⟩⟩) h
      · have h := hB c_3
        clear hA hB
        show am_Run am_X0 (am_meth d) 168 R 30 [some (.ref 113), some (.int (nI k)), some (.int (nI s)), some (.int p), some (.int q), some (.int (nI j))] [.int 0] (am_mk I L, 0, 0)
        refine ar_b0 am_c_ne (t := 36) (q := 33) rfl rfl rfl (fun c9 => absurd (by decide) c9) (fun _ => ?_)
        refine ar_goto (t := 117) rfl rfl ?_
        refine ar_iinc (v := nI (j + 1)) (ls' := [some (.ref 113), some (.int (nI k)), some (.int (nI s)), some (.int p), some (.int q), some (.int (nI (j + 1)))]) (q := 120) rfl rfl rfl (nI_1 _) rfl rfl ?_
        refine ar_goto (t := 8) rfl rfl ?_
        exact am_Run.weak (ls' := _) (by exact ⟨rfl, ⟨rfl, ⟨rfl, ⟨rfl, ⟨rfl, ⟨rfl, trivial⟩⟩⟩⟩⟩⟩) h
theorem r_M_isTooLong_0 {d : Nat} (hd : 1 ≤ d) {R : am_R} {I : Nat → Nat → Int32} {L : Nat → Nat → Int64} {k : Nat} {s : Nat} (h : (s < 60) ∧ ((am_ix I 125 s 20) ∧ (∃ j_3 : Nat, j_3 < 10 ∧ I 122 (am_n I 125 s) = nI j_3 ∧ (am_Run am_X0 (am_meth d) 171 R 14 [some (.ref 113), some (.int (nI k)), some (.int (nI s)), some (.int (I 114 j_3)), some (.int 0), none] [] (am_mk I L, 0, 0))))) : am_Run am_X0 (am_meth d) 171 R 0 [some (.ref 113), some (.int (nI k)), some (.int (nI s)), none, none, none] [] (am_mk I L, 0, 0) := by
  refine ar_aload_n (j := 0) (q := 1) rfl rfl rfl rfl ?_
  refine ar_getf (v := .ref 114) (q := 4) rfl rfl mk_113 rfl rfl ?_
  refine ar_aload_n (j := 0) (q := 5) rfl rfl rfl rfl ?_
  refine ar_iload_n (j := 2) (q := 6) rfl rfl rfl rfl ?_
  refine ar_invv (as := [.int (nI s)]) (rest := [.ref 114]) (b2 := (0, 0)) (b3 := (0, 0)) (q := 9) rfl rfl rfl rfl mk_113 rfl rfl rfl rfl rfl ?_
  obtain ⟨hp_1, h⟩ := h
  obtain ⟨hp_2, h⟩ := h
  refine ok_M_townOf (by omega) rfl hp_1 hp_2 ?_
  show am_Run am_X0 (am_meth d) 171 R 9 [some (.ref 113), some (.int (nI k)), some (.int (nI s)), none, none, none] [.int (I 122 (am_n I 125 s)), .ref 114] (am_mk I L, 0, 0)
  obtain ⟨j_3, hx_4, hi_5, h⟩ := h
  refine ar_iald (v := I 114 j_3) (q := 10) rfl mk_114 (am_inE hi_5 hx_4 (by decide)) (am_clE hi_5 hx_4 (by decide)) rfl ?_
  refine ar_istore_n (j := 3) (ls' := [some (.ref 113), some (.int (nI k)), some (.int (nI s)), some (.int (I 114 j_3)), none, none]) (q := 11) rfl rfl rfl rfl rfl ?_
  refine ar_iconst (v := 0) (q := 12) rfl rfl rfl ?_
  refine ar_istore (ls' := [some (.ref 113), some (.int (nI k)), some (.int (nI s)), some (.int (I 114 j_3)), some (.int 0), none]) (q := 14) rfl rfl rfl rfl ?_
  exact am_Run.weak (ls' := _) (by exact ⟨rfl, ⟨rfl, ⟨rfl, ⟨rfl, ⟨rfl, trivial⟩⟩⟩⟩⟩) h
theorem r_M_isTooLong_14 {d : Nat} {R : am_R} {I : Nat → Nat → Int32} {L : Nat → Nat → Int64} {k : Nat} {s : Nat} {l : Int32} {j : Nat} (h : (((nI j) ≤ 1500 → (j < 1501 ∧ (∀ I_3 : Nat → Nat → Int32, I_3 = va_up I 145 (upd (I 145) j (vp_nar .boolean 0)) → (am_Run am_X0 (am_meth d) 171 R 14 [some (.ref 113), some (.int (nI k)), some (.int (nI s)), some (.int l), some (.int (nI (j + 1))), none] [] (am_mk I_3 L, 0, 0))))) ∧ (¬ (nI j) ≤ 1500 → (am_Run am_X0 (am_meth d) 171 R 39 [some (.ref 113), some (.int (nI k)), some (.int (nI s)), some (.int l), some (.int 0), none] [] (am_mk I L, 0, 0))))) : am_Run am_X0 (am_meth d) 171 R 14 [some (.ref 113), some (.int (nI k)), some (.int (nI s)), some (.int l), some (.int (nI j)), none] [] (am_mk I L, 0, 0) := by
  refine ar_iload (q := 16) rfl rfl rfl ?_
  refine ar_sipush (v := 1500) (q := 19) rfl rfl rfl ?_
  obtain ⟨hA, hB⟩ := h
  refine ar_br am_d_gt (t := 36) (q := 22) rfl rfl rfl (fun c_1 => ?_) (fun c_1 => ?_)
  · have h := hB c_1
    clear hA hB
    refine ar_iconst (v := 0) (q := 37) rfl rfl rfl ?_
    refine ar_istore (ls' := [some (.ref 113), some (.int (nI k)), some (.int (nI s)), some (.int l), some (.int 0), none]) (q := 39) rfl rfl rfl rfl ?_
    exact am_Run.weak (ls' := _) (by exact ⟨rfl, ⟨rfl, ⟨rfl, ⟨rfl, ⟨rfl, trivial⟩⟩⟩⟩⟩) h
  · have c_1 := Classical.not_not.mp c_1
    have h := hA c_1
    clear hA hB
    refine ar_aload_n (j := 0) (q := 23) rfl rfl rfl rfl ?_
    refine ar_getf (v := .ref 145) (q := 26) rfl rfl mk_113 rfl rfl ?_
    refine ar_iload (q := 28) rfl rfl rfl ?_
    refine ar_iconst (v := 0) (q := 29) rfl rfl rfl ?_
    obtain ⟨hx_2, h⟩ := h
    obtain ⟨I_3, hI_4⟩ : ∃ z : Nat → Nat → Int32, z = va_up I 145 (upd (I 145) j (vp_nar .boolean 0)) := ⟨_, rfl⟩
    have h := h I_3 hI_4
    refine ar_bast2 (hp2 := am_mk I_3 L) (q := 30) rfl mk_145 (am_inE rfl hx_2 (by decide)) (by rw [am_clT rfl hx_2 (by decide), hI_4]; exact mk_s145) rfl ?_
    refine ar_iinc (v := nI (j + 1)) (ls' := [some (.ref 113), some (.int (nI k)), some (.int (nI s)), some (.int l), some (.int (nI (j + 1))), none]) (q := 33) rfl rfl rfl (nI_1 _) rfl rfl ?_
    refine ar_goto (t := 14) rfl rfl ?_
    exact am_Run.weak (ls' := _) (by exact ⟨rfl, ⟨rfl, ⟨rfl, ⟨rfl, ⟨rfl, trivial⟩⟩⟩⟩⟩) h
theorem r_M_isTooLong_39 {d : Nat} (hd : 1 ≤ d) {R : am_R} {I : Nat → Nat → Int32} {L : Nat → Nat → Int64} {k : Nat} {s : Nat} {l : Int32} {j : Nat} (h : (((nI j) < (I 113 14) → ((((nI j) = (nI s) → ((j < 60) ∧ ((am_ix I 125 j 20) ∧ (∃ j_5 : Nat, j_5 < 10 ∧ I 122 (am_n I 125 j) = nI j_5 ∧ ((((I 114 j_5) = l → (j < 60 ∧ (am_Run am_X0 (am_meth d) 171 R 91 [some (.ref 113), some (.int (nI k)), some (.int (nI s)), some (.int l), some (.int (nI j)), some (.int (I 126 j))] [] (am_mk I L, 0, 0)))) ∧ (¬ (I 114 j_5) = l → (am_Run am_X0 (am_meth d) 171 R 39 [some (.ref 113), some (.int (nI k)), some (.int (nI s)), some (.int l), some (.int (nI (j + 1))), none] [] (am_mk I L, 0, 0))))))))) ∧ (¬ (nI j) = (nI s) → ((j < 60) ∧ (((I 128 j = 1 ∧ I 129 j = (nI k) → ((j < 60) ∧ ((am_ix I 125 j 20) ∧ (∃ j_14 : Nat, j_14 < 10 ∧ I 122 (am_n I 125 j) = nI j_14 ∧ ((((I 114 j_14) = l → (j < 60 ∧ (am_Run am_X0 (am_meth d) 171 R 91 [some (.ref 113), some (.int (nI k)), some (.int (nI s)), some (.int l), some (.int (nI j)), some (.int (I 126 j))] [] (am_mk I L, 0, 0)))) ∧ (¬ (I 114 j_14) = l → (am_Run am_X0 (am_meth d) 171 R 39 [some (.ref 113), some (.int (nI k)), some (.int (nI s)), some (.int l), some (.int (nI (j + 1))), none] [] (am_mk I L, 0, 0))))))))) ∧ (¬ (I 128 j = 1 ∧ I 129 j = (nI k)) → (am_Run am_X0 (am_meth d) 171 R 39 [some (.ref 113), some (.int (nI k)), some (.int (nI s)), some (.int l), some (.int (nI (j + 1))), none] [] (am_mk I L, 0, 0)))))))))) ∧ (¬ (nI j) < (I 113 14) → (am_Run am_X0 (am_meth d) 171 R 129 [some (.ref 113), none, none, some (.int l), some (.int 0), some (.int 0)] [] (am_mk I L, 0, 0))))) : am_Run am_X0 (am_meth d) 171 R 39 [some (.ref 113), some (.int (nI k)), some (.int (nI s)), some (.int l), some (.int (nI j)), none] [] (am_mk I L, 0, 0) := by
  refine ar_iload (q := 41) rfl rfl rfl ?_
  refine ar_aload_n (j := 0) (q := 42) rfl rfl rfl rfl ?_
  refine ar_getf (v := .int (I 113 14)) (q := 45) rfl rfl mk_113 rfl rfl ?_
  obtain ⟨hA, hB⟩ := h
  refine ar_br am_d_ge (t := 123) (q := 48) rfl rfl rfl (fun c_1 => ?_) (fun c_1 => ?_)
  · have h := hB c_1
    clear hA hB
    refine ar_iconst (v := 0) (q := 124) rfl rfl rfl ?_
    refine ar_istore (ls' := [some (.ref 113), some (.int (nI k)), some (.int (nI s)), some (.int l), some (.int 0), none]) (q := 126) rfl rfl rfl rfl ?_
    refine ar_iconst (v := 0) (q := 127) rfl rfl rfl ?_
    refine ar_istore (ls' := [some (.ref 113), some (.int (nI k)), some (.int (nI s)), some (.int l), some (.int 0), some (.int 0)]) (q := 129) rfl rfl rfl rfl ?_
    exact am_Run.weak (ls' := _) (by exact ⟨rfl, ⟨rfl, ⟨rfl, ⟨rfl, trivial⟩⟩⟩⟩) h
  · have c_1 := Classical.not_not.mp c_1
    have h := hA c_1
    clear hA hB
    refine ar_iload (q := 50) rfl rfl rfl ?_
    refine ar_iload_n (j := 2) (q := 51) rfl rfl rfl rfl ?_
    obtain ⟨hA, hB⟩ := h
    refine ar_br am_c_eq (t := 64) (q := 54) rfl rfl rfl (fun c_2 => ?_) (fun c_2 => ?_)
    · have h := hA c_2
      clear hA hB
      refine ar_aload_n (j := 0) (q := 65) rfl rfl rfl rfl ?_
      refine ar_getf (v := .ref 114) (q := 68) rfl rfl mk_113 rfl rfl ?_
      refine ar_aload_n (j := 0) (q := 69) rfl rfl rfl rfl ?_
      refine ar_iload (q := 71) rfl rfl rfl ?_
      refine ar_invv (as := [.int (nI j)]) (rest := [.ref 114]) (b2 := (0, 0)) (b3 := (0, 0)) (q := 74) rfl rfl rfl rfl mk_113 rfl rfl rfl rfl rfl ?_
      obtain ⟨hp_3, h⟩ := h
      obtain ⟨hp_4, h⟩ := h
      refine ok_M_townOf (by omega) rfl hp_3 hp_4 ?_
      show am_Run am_X0 (am_meth d) 171 R 74 [some (.ref 113), some (.int (nI k)), some (.int (nI s)), some (.int l), some (.int (nI j)), none] [.int (I 122 (am_n I 125 j)), .ref 114] (am_mk I L, 0, 0)
      obtain ⟨j_5, hx_6, hi_7, h⟩ := h
      refine ar_iald (v := I 114 j_5) (q := 75) rfl mk_114 (am_inE hi_7 hx_6 (by decide)) (am_clE hi_7 hx_6 (by decide)) rfl ?_
      refine ar_iload_n (j := 3) (q := 76) rfl rfl rfl rfl ?_
      obtain ⟨hA, hB⟩ := h
      refine ar_br am_c_eq (t := 82) (q := 79) rfl rfl rfl (fun c_8 => ?_) (fun c_8 => ?_)
      · have h := hA c_8
        clear hA hB
        refine ar_aload_n (j := 0) (q := 83) rfl rfl rfl rfl ?_
        refine ar_getf (v := .ref 126) (q := 86) rfl rfl mk_113 rfl rfl ?_
        refine ar_iload (q := 88) rfl rfl rfl ?_
        obtain ⟨hx_9, h⟩ := h
        refine ar_iald (v := I 126 j) (q := 89) rfl mk_126 (am_inE rfl hx_9 (by decide)) (am_clE rfl hx_9 (by decide)) rfl ?_
        refine ar_istore (ls' := [some (.ref 113), some (.int (nI k)), some (.int (nI s)), some (.int l), some (.int (nI j)), some (.int (I 126 j))]) (q := 91) rfl rfl rfl rfl ?_
        exact am_Run.weak (ls' := _) (by exact ⟨rfl, ⟨rfl, ⟨rfl, ⟨rfl, ⟨rfl, ⟨rfl, trivial⟩⟩⟩⟩⟩⟩) h
      · have h := hB c_8
        clear hA hB
        refine ar_goto (t := 117) rfl rfl ?_
        refine ar_iinc (v := nI (j + 1)) (ls' := [some (.ref 113), some (.int (nI k)), some (.int (nI s)), some (.int l), some (.int (nI (j + 1))), none]) (q := 120) rfl rfl rfl (nI_1 _) rfl rfl ?_
        refine ar_goto (t := 39) rfl rfl ?_
        exact am_Run.weak (ls' := _) (by exact ⟨rfl, ⟨rfl, ⟨rfl, ⟨rfl, ⟨rfl, trivial⟩⟩⟩⟩⟩) h
    · have h := hB c_2
      clear hA hB
      refine ar_aload_n (j := 0) (q := 55) rfl rfl rfl rfl ?_
      refine ar_iload_n (j := 1) (q := 56) rfl rfl rfl rfl ?_
      refine ar_iload (q := 58) rfl rfl rfl ?_
      refine ar_invv (as := [.int (nI k), .int (nI j)]) (rest := []) (b2 := (0, 0)) (b3 := (0, 0)) (q := 61) rfl rfl rfl rfl mk_113 rfl rfl rfl rfl rfl ?_
      obtain ⟨hp_11, h⟩ := h
      obtain ⟨hA, hB⟩ := h
      refine ok_M_has (by omega) rfl hp_11 (fun c_10 => ?_) (fun c_10 => ?_)
      · have h := hA c_10
        clear hA hB
        show am_Run am_X0 (am_meth d) 171 R 61 [some (.ref 113), some (.int (nI k)), some (.int (nI s)), some (.int l), some (.int (nI j)), none] [.int 1] (am_mk I L, 0, 0)
        refine ar_b0 am_c_eq (t := 117) (q := 64) rfl rfl rfl (fun c9 => absurd c9 (by decide)) (fun _ => ?_)
        refine ar_aload_n (j := 0) (q := 65) rfl rfl rfl rfl ?_
        refine ar_getf (v := .ref 114) (q := 68) rfl rfl mk_113 rfl rfl ?_
        refine ar_aload_n (j := 0) (q := 69) rfl rfl rfl rfl ?_
        refine ar_iload (q := 71) rfl rfl rfl ?_
        refine ar_invv (as := [.int (nI j)]) (rest := [.ref 114]) (b2 := (0, 0)) (b3 := (0, 0)) (q := 74) rfl rfl rfl rfl mk_113 rfl rfl rfl rfl rfl ?_
        obtain ⟨hp_12, h⟩ := h
        obtain ⟨hp_13, h⟩ := h
        refine ok_M_townOf (by omega) rfl hp_12 hp_13 ?_
        show am_Run am_X0 (am_meth d) 171 R 74 [some (.ref 113), some (.int (nI k)), some (.int (nI s)), some (.int l), some (.int (nI j)), none] [.int (I 122 (am_n I 125 j)), .ref 114] (am_mk I L, 0, 0)
        obtain ⟨j_14, hx_15, hi_16, h⟩ := h
        refine ar_iald (v := I 114 j_14) (q := 75) rfl mk_114 (am_inE hi_16 hx_15 (by decide)) (am_clE hi_16 hx_15 (by decide)) rfl ?_
        refine ar_iload_n (j := 3) (q := 76) rfl rfl rfl rfl ?_
        obtain ⟨hA, hB⟩ := h
        refine ar_br am_c_eq (t := 82) (q := 79) rfl rfl rfl (fun c_17 => ?_) (fun c_17 => ?_)
        · have h := hA c_17
          clear hA hB
          refine ar_aload_n (j := 0) (q := 83) rfl rfl rfl rfl ?_
          refine ar_getf (v := .ref 126) (q := 86) rfl rfl mk_113 rfl rfl ?_
          refine ar_iload (q := 88) rfl rfl rfl ?_
          obtain ⟨hx_18, h⟩ := h
          refine ar_iald (v := I 126 j) (q := 89) rfl mk_126 (am_inE rfl hx_18 (by decide)) (am_clE rfl hx_18 (by decide)) rfl ?_
          refine ar_istore (ls' := [some (.ref 113), some (.int (nI k)), some (.int (nI s)), some (.int l), some (.int (nI j)), some (.int (I 126 j))]) (q := 91) rfl rfl rfl rfl ?_
          exact am_Run.weak (ls' := _) (by exact ⟨rfl, ⟨rfl, ⟨rfl, ⟨rfl, ⟨rfl, ⟨rfl, trivial⟩⟩⟩⟩⟩⟩) h
        · have h := hB c_17
          clear hA hB
          refine ar_goto (t := 117) rfl rfl ?_
          refine ar_iinc (v := nI (j + 1)) (ls' := [some (.ref 113), some (.int (nI k)), some (.int (nI s)), some (.int l), some (.int (nI (j + 1))), none]) (q := 120) rfl rfl rfl (nI_1 _) rfl rfl ?_
          refine ar_goto (t := 39) rfl rfl ?_
          exact am_Run.weak (ls' := _) (by exact ⟨rfl, ⟨rfl, ⟨rfl, ⟨rfl, ⟨rfl, trivial⟩⟩⟩⟩⟩) h
      · have h := hB c_10
        clear hA hB
        show am_Run am_X0 (am_meth d) 171 R 61 [some (.ref 113), some (.int (nI k)), some (.int (nI s)), some (.int l), some (.int (nI j)), none] [.int 0] (am_mk I L, 0, 0)
        refine ar_b0 am_c_eq (t := 117) (q := 64) rfl rfl rfl (fun _ => ?_) (fun c9 => absurd (by decide) c9)
        refine ar_iinc (v := nI (j + 1)) (ls' := [some (.ref 113), some (.int (nI k)), some (.int (nI s)), some (.int l), some (.int (nI (j + 1))), none]) (q := 120) rfl rfl rfl (nI_1 _) rfl rfl ?_
        refine ar_goto (t := 39) rfl rfl ?_
        exact am_Run.weak (ls' := _) (by exact ⟨rfl, ⟨rfl, ⟨rfl, ⟨rfl, ⟨rfl, trivial⟩⟩⟩⟩⟩) h
theorem r_M_isTooLong_91 {d : Nat} {R : am_R} {I : Nat → Nat → Int32} {L : Nat → Nat → Int64} {k : Nat} {s : Nat} {l : Int32} {j : Nat} {x : Nat} (h : j < 60 ∧ ((((nI x) ≤ (I 127 j) → (x < 1501 ∧ (∀ I_4 : Nat → Nat → Int32, I_4 = va_up I 145 (upd (I 145) x (vp_nar .boolean 1)) → (am_Run am_X0 (am_meth d) 171 R 91 [some (.ref 113), some (.int (nI k)), some (.int (nI s)), some (.int l), some (.int (nI j)), some (.int (nI (x + 1)))] [] (am_mk I_4 L, 0, 0))))) ∧ (¬ (nI x) ≤ (I 127 j) → (am_Run am_X0 (am_meth d) 171 R 39 [some (.ref 113), some (.int (nI k)), some (.int (nI s)), some (.int l), some (.int (nI (j + 1))), none] [] (am_mk I L, 0, 0)))))) : am_Run am_X0 (am_meth d) 171 R 91 [some (.ref 113), some (.int (nI k)), some (.int (nI s)), some (.int l), some (.int (nI j)), some (.int (nI x))] [] (am_mk I L, 0, 0) := by
  refine ar_iload (q := 93) rfl rfl rfl ?_
  refine ar_aload_n (j := 0) (q := 94) rfl rfl rfl rfl ?_
  refine ar_getf (v := .ref 127) (q := 97) rfl rfl mk_113 rfl rfl ?_
  refine ar_iload (q := 99) rfl rfl rfl ?_
  obtain ⟨hx_1, h⟩ := h
  refine ar_iald (v := I 127 j) (q := 100) rfl mk_127 (am_inE rfl hx_1 (by decide)) (am_clE rfl hx_1 (by decide)) rfl ?_
  obtain ⟨hA, hB⟩ := h
  refine ar_br am_d_gt (t := 117) (q := 103) rfl rfl rfl (fun c_2 => ?_) (fun c_2 => ?_)
  · have h := hB c_2
    clear hA hB
    refine ar_iinc (v := nI (j + 1)) (ls' := [some (.ref 113), some (.int (nI k)), some (.int (nI s)), some (.int l), some (.int (nI (j + 1))), some (.int (nI x))]) (q := 120) rfl rfl rfl (nI_1 _) rfl rfl ?_
    refine ar_goto (t := 39) rfl rfl ?_
    exact am_Run.weak (ls' := _) (by exact ⟨rfl, ⟨rfl, ⟨rfl, ⟨rfl, ⟨rfl, trivial⟩⟩⟩⟩⟩) h
  · have c_2 := Classical.not_not.mp c_2
    have h := hA c_2
    clear hA hB
    refine ar_aload_n (j := 0) (q := 104) rfl rfl rfl rfl ?_
    refine ar_getf (v := .ref 145) (q := 107) rfl rfl mk_113 rfl rfl ?_
    refine ar_iload (q := 109) rfl rfl rfl ?_
    refine ar_iconst (v := 1) (q := 110) rfl rfl rfl ?_
    obtain ⟨hx_3, h⟩ := h
    obtain ⟨I_4, hI_5⟩ : ∃ z : Nat → Nat → Int32, z = va_up I 145 (upd (I 145) x (vp_nar .boolean 1)) := ⟨_, rfl⟩
    have h := h I_4 hI_5
    refine ar_bast2 (hp2 := am_mk I_4 L) (q := 111) rfl mk_145 (am_inE rfl hx_3 (by decide)) (by rw [am_clT rfl hx_3 (by decide), hI_5]; exact mk_s145) rfl ?_
    refine ar_iinc (v := nI (x + 1)) (ls' := [some (.ref 113), some (.int (nI k)), some (.int (nI s)), some (.int l), some (.int (nI j)), some (.int (nI (x + 1)))]) (q := 114) rfl rfl rfl (nI_1 _) rfl rfl ?_
    refine ar_goto (t := 91) rfl rfl ?_
    exact am_Run.weak (ls' := _) (by exact ⟨rfl, ⟨rfl, ⟨rfl, ⟨rfl, ⟨rfl, ⟨rfl, trivial⟩⟩⟩⟩⟩⟩) h
theorem r_M_isTooLong_129 {d : Nat} {R : am_R} {I : Nat → Nat → Int32} {L : Nat → Nat → Int64} {l : Int32} {m : Int32} {j : Nat} (h : (((nI j) ≤ 1500 → (j < 1501 ∧ ((((I 145 j) = 0 → ((((nI j) < 180 → (∃ j_5 : Nat, j_5 < 5 ∧ l = nI j_5 ∧ (((m ≤ (I 116 j_5) → (am_Run am_X0 (am_meth d) 171 R 129 [some (.ref 113), none, none, some (.int l), some (.int m), some (.int (nI (j + 1)))] [] (am_mk I L, 0, 0))) ∧ (¬ m ≤ (I 116 j_5) → (R (some (.int 1)) (am_mk I L, 0, 0))))))) ∧ (¬ (nI j) < 180 → (∃ j_9 : Nat, j_9 < 1501 ∧ (nI j) - 180 = nI j_9 ∧ ((((I 145 j_9) = 0 → (∃ j_13 : Nat, j_13 < 5 ∧ l = nI j_13 ∧ (((m ≤ (I 116 j_13) → (am_Run am_X0 (am_meth d) 171 R 129 [some (.ref 113), none, none, some (.int l), some (.int m), some (.int (nI (j + 1)))] [] (am_mk I L, 0, 0))) ∧ (¬ m ≤ (I 116 j_13) → (R (some (.int 1)) (am_mk I L, 0, 0))))))) ∧ (¬ (I 145 j_9) = 0 → (∃ j_17 : Nat, j_17 < 5 ∧ l = nI j_17 ∧ ((((m + (-1)) ≤ (I 116 j_17) → (am_Run am_X0 (am_meth d) 171 R 129 [some (.ref 113), none, none, some (.int l), some (.int (m + (-1))), some (.int (nI (j + 1)))] [] (am_mk I L, 0, 0))) ∧ (¬ (m + (-1)) ≤ (I 116 j_17) → (R (some (.int 1)) (am_mk I L, 0, 0)))))))))))))) ∧ (¬ (I 145 j) = 0 → ((((nI j) < 180 → (∃ j_22 : Nat, j_22 < 5 ∧ l = nI j_22 ∧ ((((m + 1) ≤ (I 116 j_22) → (am_Run am_X0 (am_meth d) 171 R 129 [some (.ref 113), none, none, some (.int l), some (.int (m + 1)), some (.int (nI (j + 1)))] [] (am_mk I L, 0, 0))) ∧ (¬ (m + 1) ≤ (I 116 j_22) → (R (some (.int 1)) (am_mk I L, 0, 0))))))) ∧ (¬ (nI j) < 180 → (∃ j_26 : Nat, j_26 < 1501 ∧ (nI j) - 180 = nI j_26 ∧ ((((I 145 j_26) = 0 → (∃ j_30 : Nat, j_30 < 5 ∧ l = nI j_30 ∧ ((((m + 1) ≤ (I 116 j_30) → (am_Run am_X0 (am_meth d) 171 R 129 [some (.ref 113), none, none, some (.int l), some (.int (m + 1)), some (.int (nI (j + 1)))] [] (am_mk I L, 0, 0))) ∧ (¬ (m + 1) ≤ (I 116 j_30) → (R (some (.int 1)) (am_mk I L, 0, 0))))))) ∧ (¬ (I 145 j_26) = 0 → (∃ j_34 : Nat, j_34 < 5 ∧ l = nI j_34 ∧ (((((m + 1) + (-1)) ≤ (I 116 j_34) → (am_Run am_X0 (am_meth d) 171 R 129 [some (.ref 113), none, none, some (.int l), some (.int ((m + 1) + (-1))), some (.int (nI (j + 1)))] [] (am_mk I L, 0, 0))) ∧ (¬ ((m + 1) + (-1)) ≤ (I 116 j_34) → (R (some (.int 1)) (am_mk I L, 0, 0)))))))))))))))))) ∧ (¬ (nI j) ≤ 1500 → (R (some (.int 0)) (am_mk I L, 0, 0))))) : am_Run am_X0 (am_meth d) 171 R 129 [some (.ref 113), none, none, some (.int l), some (.int m), some (.int (nI j))] [] (am_mk I L, 0, 0) := by
  refine ar_iload (q := 131) rfl rfl rfl ?_
  refine ar_sipush (v := 1500) (q := 134) rfl rfl rfl ?_
  obtain ⟨hA, hB⟩ := h
  refine ar_br am_d_gt (t := 194) (q := 137) rfl rfl rfl (fun c_1 => ?_) (fun c_1 => ?_)
  · have h := hB c_1
    clear hA hB
    refine ar_iconst (v := 0) (q := 195) rfl rfl rfl ?_
    exact ar_zret rfl rfl (Or.inl rfl) h
  · have c_1 := Classical.not_not.mp c_1
    have h := hA c_1
    clear hA hB
    refine ar_aload_n (j := 0) (q := 138) rfl rfl rfl rfl ?_
    refine ar_getf (v := .ref 145) (q := 141) rfl rfl mk_113 rfl rfl ?_
    refine ar_iload (q := 143) rfl rfl rfl ?_
    obtain ⟨hx_2, h⟩ := h
    refine ar_bald (v := I 145 j) (q := 144) rfl (Or.inr rfl) mk_145 (am_inE rfl hx_2 (by decide)) (am_clE rfl hx_2 (by decide)) rfl ?_
    obtain ⟨hA, hB⟩ := h
    refine ar_b0 am_c_eq (t := 150) (q := 147) rfl rfl rfl (fun c_3 => ?_) (fun c_3 => ?_)
    · have h := hA c_3
      clear hA hB
      refine ar_iload (q := 152) rfl rfl rfl ?_
      refine ar_sipush (v := 180) (q := 155) rfl rfl rfl ?_
      obtain ⟨hA, hB⟩ := h
      refine ar_br am_c_lt (t := 175) (q := 158) rfl rfl rfl (fun c_4 => ?_) (fun c_4 => ?_)
      · have h := hA c_4
        clear hA hB
        refine ar_iload (q := 177) rfl rfl rfl ?_
        refine ar_aload_n (j := 0) (q := 178) rfl rfl rfl rfl ?_
        refine ar_getf (v := .ref 116) (q := 181) rfl rfl mk_113 rfl rfl ?_
        refine ar_iload_n (j := 3) (q := 182) rfl rfl rfl rfl ?_
        obtain ⟨j_5, hx_6, hi_7, h⟩ := h
        refine ar_iald (v := I 116 j_5) (q := 183) rfl mk_116 (am_inE hi_7 hx_6 (by decide)) (am_clE hi_7 hx_6 (by decide)) rfl ?_
        obtain ⟨hA, hB⟩ := h
        refine ar_br am_c_le (t := 188) (q := 186) rfl rfl rfl (fun c_8 => ?_) (fun c_8 => ?_)
        · have h := hA c_8
          clear hA hB
          refine ar_iinc (v := nI (j + 1)) (ls' := [some (.ref 113), none, none, some (.int l), some (.int m), some (.int (nI (j + 1)))]) (q := 191) rfl rfl rfl (nI_1 _) rfl rfl ?_
          refine ar_goto (t := 129) rfl rfl ?_
          exact am_Run.weak (ls' := _) (by exact ⟨rfl, ⟨rfl, ⟨rfl, ⟨rfl, trivial⟩⟩⟩⟩) h
        · have h := hB c_8
          clear hA hB
          refine ar_iconst (v := 1) (q := 187) rfl rfl rfl ?_
          exact ar_zret rfl rfl (Or.inr rfl) h
      · have h := hB c_4
        clear hA hB
        refine ar_aload_n (j := 0) (q := 159) rfl rfl rfl rfl ?_
        refine ar_getf (v := .ref 145) (q := 162) rfl rfl mk_113 rfl rfl ?_
        refine ar_iload (q := 164) rfl rfl rfl ?_
        refine ar_sipush (v := 180) (q := 167) rfl rfl rfl ?_
        refine ar_ib (i := .isub) (z := (nI j) - 180) (q := 168) rfl rfl rfl rfl rfl ?_
        obtain ⟨j_9, hx_10, hi_11, h⟩ := h
        refine ar_bald (v := I 145 j_9) (q := 169) rfl (Or.inr rfl) mk_145 (am_inE hi_11 hx_10 (by decide)) (am_clE hi_11 hx_10 (by decide)) rfl ?_
        obtain ⟨hA, hB⟩ := h
        refine ar_b0 am_c_eq (t := 175) (q := 172) rfl rfl rfl (fun c_12 => ?_) (fun c_12 => ?_)
        · have h := hA c_12
          clear hA hB
          refine ar_iload (q := 177) rfl rfl rfl ?_
          refine ar_aload_n (j := 0) (q := 178) rfl rfl rfl rfl ?_
          refine ar_getf (v := .ref 116) (q := 181) rfl rfl mk_113 rfl rfl ?_
          refine ar_iload_n (j := 3) (q := 182) rfl rfl rfl rfl ?_
          obtain ⟨j_13, hx_14, hi_15, h⟩ := h
          refine ar_iald (v := I 116 j_13) (q := 183) rfl mk_116 (am_inE hi_15 hx_14 (by decide)) (am_clE hi_15 hx_14 (by decide)) rfl ?_
          obtain ⟨hA, hB⟩ := h
          refine ar_br am_c_le (t := 188) (q := 186) rfl rfl rfl (fun c_16 => ?_) (fun c_16 => ?_)
          · have h := hA c_16
            clear hA hB
            refine ar_iinc (v := nI (j + 1)) (ls' := [some (.ref 113), none, none, some (.int l), some (.int m), some (.int (nI (j + 1)))]) (q := 191) rfl rfl rfl (nI_1 _) rfl rfl ?_
            refine ar_goto (t := 129) rfl rfl ?_
            exact am_Run.weak (ls' := _) (by exact ⟨rfl, ⟨rfl, ⟨rfl, ⟨rfl, trivial⟩⟩⟩⟩) h
          · have h := hB c_16
            clear hA hB
            refine ar_iconst (v := 1) (q := 187) rfl rfl rfl ?_
            exact ar_zret rfl rfl (Or.inr rfl) h
        · have h := hB c_12
          clear hA hB
          refine ar_iinc (v := m + (-1)) (ls' := [some (.ref 113), none, none, some (.int l), some (.int (m + (-1))), some (.int (nI j))]) (q := 175) rfl rfl rfl rfl rfl rfl ?_
          refine ar_iload (q := 177) rfl rfl rfl ?_
          refine ar_aload_n (j := 0) (q := 178) rfl rfl rfl rfl ?_
          refine ar_getf (v := .ref 116) (q := 181) rfl rfl mk_113 rfl rfl ?_
          refine ar_iload_n (j := 3) (q := 182) rfl rfl rfl rfl ?_
          obtain ⟨j_17, hx_18, hi_19, h⟩ := h
          refine ar_iald (v := I 116 j_17) (q := 183) rfl mk_116 (am_inE hi_19 hx_18 (by decide)) (am_clE hi_19 hx_18 (by decide)) rfl ?_
          obtain ⟨hA, hB⟩ := h
          refine ar_br am_c_le (t := 188) (q := 186) rfl rfl rfl (fun c_20 => ?_) (fun c_20 => ?_)
          · have h := hA c_20
            clear hA hB
            refine ar_iinc (v := nI (j + 1)) (ls' := [some (.ref 113), none, none, some (.int l), some (.int (m + (-1))), some (.int (nI (j + 1)))]) (q := 191) rfl rfl rfl (nI_1 _) rfl rfl ?_
            refine ar_goto (t := 129) rfl rfl ?_
            exact am_Run.weak (ls' := _) (by exact ⟨rfl, ⟨rfl, ⟨rfl, ⟨rfl, trivial⟩⟩⟩⟩) h
          · have h := hB c_20
            clear hA hB
            refine ar_iconst (v := 1) (q := 187) rfl rfl rfl ?_
            exact ar_zret rfl rfl (Or.inr rfl) h
    · have h := hB c_3
      clear hA hB
      refine ar_iinc (v := m + 1) (ls' := [some (.ref 113), none, none, some (.int l), some (.int (m + 1)), some (.int (nI j))]) (q := 150) rfl rfl rfl rfl rfl rfl ?_
      refine ar_iload (q := 152) rfl rfl rfl ?_
      refine ar_sipush (v := 180) (q := 155) rfl rfl rfl ?_
      obtain ⟨hA, hB⟩ := h
      refine ar_br am_c_lt (t := 175) (q := 158) rfl rfl rfl (fun c_21 => ?_) (fun c_21 => ?_)
      · have h := hA c_21
        clear hA hB
        refine ar_iload (q := 177) rfl rfl rfl ?_
        refine ar_aload_n (j := 0) (q := 178) rfl rfl rfl rfl ?_
        refine ar_getf (v := .ref 116) (q := 181) rfl rfl mk_113 rfl rfl ?_
        refine ar_iload_n (j := 3) (q := 182) rfl rfl rfl rfl ?_
        obtain ⟨j_22, hx_23, hi_24, h⟩ := h
        refine ar_iald (v := I 116 j_22) (q := 183) rfl mk_116 (am_inE hi_24 hx_23 (by decide)) (am_clE hi_24 hx_23 (by decide)) rfl ?_
        obtain ⟨hA, hB⟩ := h
        refine ar_br am_c_le (t := 188) (q := 186) rfl rfl rfl (fun c_25 => ?_) (fun c_25 => ?_)
        · have h := hA c_25
          clear hA hB
          refine ar_iinc (v := nI (j + 1)) (ls' := [some (.ref 113), none, none, some (.int l), some (.int (m + 1)), some (.int (nI (j + 1)))]) (q := 191) rfl rfl rfl (nI_1 _) rfl rfl ?_
          refine ar_goto (t := 129) rfl rfl ?_
          exact am_Run.weak (ls' := _) (by exact ⟨rfl, ⟨rfl, ⟨rfl, ⟨rfl, trivial⟩⟩⟩⟩) h
        · have h := hB c_25
          clear hA hB
          refine ar_iconst (v := 1) (q := 187) rfl rfl rfl ?_
          exact ar_zret rfl rfl (Or.inr rfl) h
      · have h := hB c_21
        clear hA hB
        refine ar_aload_n (j := 0) (q := 159) rfl rfl rfl rfl ?_
        refine ar_getf (v := .ref 145) (q := 162) rfl rfl mk_113 rfl rfl ?_
        refine ar_iload (q := 164) rfl rfl rfl ?_
        refine ar_sipush (v := 180) (q := 167) rfl rfl rfl ?_
        refine ar_ib (i := .isub) (z := (nI j) - 180) (q := 168) rfl rfl rfl rfl rfl ?_
        obtain ⟨j_26, hx_27, hi_28, h⟩ := h
        refine ar_bald (v := I 145 j_26) (q := 169) rfl (Or.inr rfl) mk_145 (am_inE hi_28 hx_27 (by decide)) (am_clE hi_28 hx_27 (by decide)) rfl ?_
        obtain ⟨hA, hB⟩ := h
        refine ar_b0 am_c_eq (t := 175) (q := 172) rfl rfl rfl (fun c_29 => ?_) (fun c_29 => ?_)
        · have h := hA c_29
          clear hA hB
          refine ar_iload (q := 177) rfl rfl rfl ?_
          refine ar_aload_n (j := 0) (q := 178) rfl rfl rfl rfl ?_
          refine ar_getf (v := .ref 116) (q := 181) rfl rfl mk_113 rfl rfl ?_
          refine ar_iload_n (j := 3) (q := 182) rfl rfl rfl rfl ?_
          obtain ⟨j_30, hx_31, hi_32, h⟩ := h
          refine ar_iald (v := I 116 j_30) (q := 183) rfl mk_116 (am_inE hi_32 hx_31 (by decide)) (am_clE hi_32 hx_31 (by decide)) rfl ?_
          obtain ⟨hA, hB⟩ := h
          refine ar_br am_c_le (t := 188) (q := 186) rfl rfl rfl (fun c_33 => ?_) (fun c_33 => ?_)
          · have h := hA c_33
            clear hA hB
            refine ar_iinc (v := nI (j + 1)) (ls' := [some (.ref 113), none, none, some (.int l), some (.int (m + 1)), some (.int (nI (j + 1)))]) (q := 191) rfl rfl rfl (nI_1 _) rfl rfl ?_
            refine ar_goto (t := 129) rfl rfl ?_
            exact am_Run.weak (ls' := _) (by exact ⟨rfl, ⟨rfl, ⟨rfl, ⟨rfl, trivial⟩⟩⟩⟩) h
          · have h := hB c_33
            clear hA hB
            refine ar_iconst (v := 1) (q := 187) rfl rfl rfl ?_
            exact ar_zret rfl rfl (Or.inr rfl) h
        · have h := hB c_29
          clear hA hB
          refine ar_iinc (v := (m + 1) + (-1)) (ls' := [some (.ref 113), none, none, some (.int l), some (.int ((m + 1) + (-1))), some (.int (nI j))]) (q := 175) rfl rfl rfl rfl rfl rfl ?_
          refine ar_iload (q := 177) rfl rfl rfl ?_
          refine ar_aload_n (j := 0) (q := 178) rfl rfl rfl rfl ?_
          refine ar_getf (v := .ref 116) (q := 181) rfl rfl mk_113 rfl rfl ?_
          refine ar_iload_n (j := 3) (q := 182) rfl rfl rfl rfl ?_
          obtain ⟨j_34, hx_35, hi_36, h⟩ := h
          refine ar_iald (v := I 116 j_34) (q := 183) rfl mk_116 (am_inE hi_36 hx_35 (by decide)) (am_clE hi_36 hx_35 (by decide)) rfl ?_
          obtain ⟨hA, hB⟩ := h
          refine ar_br am_c_le (t := 188) (q := 186) rfl rfl rfl (fun c_37 => ?_) (fun c_37 => ?_)
          · have h := hA c_37
            clear hA hB
            refine ar_iinc (v := nI (j + 1)) (ls' := [some (.ref 113), none, none, some (.int l), some (.int ((m + 1) + (-1))), some (.int (nI (j + 1)))]) (q := 191) rfl rfl rfl (nI_1 _) rfl rfl ?_
            refine ar_goto (t := 129) rfl rfl ?_
            exact am_Run.weak (ls' := _) (by exact ⟨rfl, ⟨rfl, ⟨rfl, ⟨rfl, trivial⟩⟩⟩⟩) h
          · have h := hB c_37
            clear hA hB
            refine ar_iconst (v := 1) (q := 187) rfl rfl rfl ?_
            exact ar_zret rfl rfl (Or.inr rfl) h
theorem r_M_whyNot_0 {d : Nat} {R : am_R} {I : Nat → Nat → Int32} {L : Nat → Nat → Int64} {k : Nat} {s : Nat} (h : s < 60 ∧ ((((I 128 s) = 0 → ((((I 126 s) ≤ (I 113 0) → (R (some (.int 1)) (am_mk I L, 0, 0))) ∧ (¬ (I 126 s) ≤ (I 113 0) → (∃ j_4 : Nat, j_4 < 20 ∧ I 125 s = nI j_4 ∧ (k < 20 ∧ (((((I 123 j_4) &&& ((I 118 k) ^^^ (-1 : Int32))) = 0 → (am_meth d 166 [.ref 113, .int (nI k), .int (nI s)] (am_mk I L, 0, 0) (am_ri (fun z_9 I_10 L_11 => ((z_9 = 0 → (am_meth d 168 [.ref 113, .int (nI k), .int (nI s)] (am_mk I_10 L_11, 0, 0) (am_ri (fun z_13 I_14 L_15 => ((z_13 = 0 → (am_meth d 171 [.ref 113, .int (nI k), .int (nI s)] (am_mk I_14 L_15, 0, 0) (am_ri (fun z_17 I_18 L_19 => ((z_17 = 0 → (am_meth d 172 [.ref 113, .int (nI k), .int (nI s)] (am_mk I_18 L_19, 0, 0) (am_ri (fun z_21 I_22 L_23 => ((z_21 ≤ 0 → (R (some (.int 6)) (am_mk I_22 L_23, 0, 0))) ∧ (¬ z_21 ≤ 0 → (R (some (.int 0)) (am_mk I_22 L_23, 0, 0)))))))) ∧ (¬ z_17 = 0 → (R (some (.int 5)) (am_mk I_18 L_19, 0, 0)))))))) ∧ (¬ z_13 = 0 → (R (some (.int 4)) (am_mk I_14 L_15, 0, 0)))))))) ∧ (¬ z_9 = 0 → (R (some (.int 3)) (am_mk I_10 L_11, 0, 0)))))))) ∧ (¬ ((I 123 j_4) &&& ((I 118 k) ^^^ (-1 : Int32))) = 0 → (R (some (.int 2)) (am_mk I L, 0, 0))))))))))) ∧ (¬ (I 128 s) = 0 → (R (some (.int 9)) (am_mk I L, 0, 0)))))) : am_Run am_X0 (am_meth d) 165 R 0 [some (.ref 113), some (.int (nI k)), some (.int (nI s))] [] (am_mk I L, 0, 0) := by
  refine ar_aload_n (j := 0) (q := 1) rfl rfl rfl rfl ?_
  refine ar_getf (v := .ref 128) (q := 4) rfl rfl mk_113 rfl rfl ?_
  refine ar_iload_n (j := 2) (q := 5) rfl rfl rfl rfl ?_
  obtain ⟨hx_1, h⟩ := h
  refine ar_iald (v := I 128 s) (q := 6) rfl mk_128 (am_inE rfl hx_1 (by decide)) (am_clE rfl hx_1 (by decide)) rfl ?_
  obtain ⟨hA, hB⟩ := h
  refine ar_b0 am_c_eq (t := 12) (q := 9) rfl rfl rfl (fun c_2 => ?_) (fun c_2 => ?_)
  · have h := hA c_2
    clear hA hB
    refine ar_aload_n (j := 0) (q := 13) rfl rfl rfl rfl ?_
    refine ar_getf (v := .ref 126) (q := 16) rfl rfl mk_113 rfl rfl ?_
    refine ar_iload_n (j := 2) (q := 17) rfl rfl rfl rfl ?_
    refine ar_iald (v := I 126 s) (q := 18) rfl mk_126 (am_inE rfl hx_1 (by decide)) (am_clE rfl hx_1 (by decide)) rfl ?_
    refine ar_aload_n (j := 0) (q := 19) rfl rfl rfl rfl ?_
    refine ar_getf (v := .int (I 113 0)) (q := 22) rfl rfl mk_113 rfl rfl ?_
    obtain ⟨hA, hB⟩ := h
    refine ar_br am_d_gt (t := 27) (q := 25) rfl rfl rfl (fun c_3 => ?_) (fun c_3 => ?_)
    · have h := hB c_3
      clear hA hB
      refine ar_aload_n (j := 0) (q := 28) rfl rfl rfl rfl ?_
      refine ar_getf (v := .ref 123) (q := 31) rfl rfl mk_113 rfl rfl ?_
      refine ar_aload_n (j := 0) (q := 32) rfl rfl rfl rfl ?_
      refine ar_getf (v := .ref 125) (q := 35) rfl rfl mk_113 rfl rfl ?_
      refine ar_iload_n (j := 2) (q := 36) rfl rfl rfl rfl ?_
      refine ar_iald (v := I 125 s) (q := 37) rfl mk_125 (am_inE rfl hx_1 (by decide)) (am_clE rfl hx_1 (by decide)) rfl ?_
      obtain ⟨j_4, hx_5, hi_6, h⟩ := h
      refine ar_iald (v := I 123 j_4) (q := 38) rfl mk_123 (am_inE hi_6 hx_5 (by decide)) (am_clE hi_6 hx_5 (by decide)) rfl ?_
      refine ar_aload_n (j := 0) (q := 39) rfl rfl rfl rfl ?_
      refine ar_getf (v := .ref 118) (q := 42) rfl rfl mk_113 rfl rfl ?_
      refine ar_iload_n (j := 1) (q := 43) rfl rfl rfl rfl ?_
      obtain ⟨hx_7, h⟩ := h
      refine ar_iald (v := I 118 k) (q := 44) rfl mk_118 (am_inE rfl hx_7 (by decide)) (am_clE rfl hx_7 (by decide)) rfl ?_
      refine ar_iconst (v := (-1 : Int32)) (q := 45) rfl rfl rfl ?_
      refine ar_ib (i := .ixor) (z := (I 118 k) ^^^ (-1 : Int32)) (q := 46) rfl rfl rfl rfl rfl ?_
      refine ar_ib (i := .iand) (z := (I 123 j_4) &&& ((I 118 k) ^^^ (-1 : Int32))) (q := 47) rfl rfl rfl rfl rfl ?_
      obtain ⟨hA, hB⟩ := h
      refine ar_b0 am_c_eq (t := 52) (q := 50) rfl rfl rfl (fun c_8 => ?_) (fun c_8 => ?_)
      · have h := hA c_8
        clear hA hB
        refine ar_aload_n (j := 0) (q := 53) rfl rfl rfl rfl ?_
        refine ar_iload_n (j := 1) (q := 54) rfl rfl rfl rfl ?_
        refine ar_iload_n (j := 2) (q := 55) rfl rfl rfl rfl ?_
        refine ar_invv (as := [.int (nI k), .int (nI s)]) (rest := []) (b2 := (0, 0)) (b3 := (0, 0)) (q := 58) rfl rfl rfl rfl mk_113 rfl rfl rfl rfl rfl ?_
        refine am_meth_mono d _ _ _ _ _ (fun v9 m9 h9 => ?_) h
        obtain ⟨z_9, I_10, L_11, rfl, rfl, h⟩ := h9
        show am_Run am_X0 (am_meth d) 165 R 58 [some (.ref 113), some (.int (nI k)), some (.int (nI s))] [.int z_9] (am_mk I_10 L_11, 0, 0)
        obtain ⟨hA, hB⟩ := h
        refine ar_b0 am_c_eq (t := 63) (q := 61) rfl rfl rfl (fun c_12 => ?_) (fun c_12 => ?_)
        · have h := hA c_12
          clear hA hB
          refine ar_aload_n (j := 0) (q := 64) rfl rfl rfl rfl ?_
          refine ar_iload_n (j := 1) (q := 65) rfl rfl rfl rfl ?_
          refine ar_iload_n (j := 2) (q := 66) rfl rfl rfl rfl ?_
          refine ar_invv (as := [.int (nI k), .int (nI s)]) (rest := []) (b2 := (0, 0)) (b3 := (0, 0)) (q := 69) rfl rfl rfl rfl mk_113 rfl rfl rfl rfl rfl ?_
          refine am_meth_mono d _ _ _ _ _ (fun v9 m9 h9 => ?_) h
          obtain ⟨z_13, I_14, L_15, rfl, rfl, h⟩ := h9
          show am_Run am_X0 (am_meth d) 165 R 69 [some (.ref 113), some (.int (nI k)), some (.int (nI s))] [.int z_13] (am_mk I_14 L_15, 0, 0)
          obtain ⟨hA, hB⟩ := h
          refine ar_b0 am_c_eq (t := 74) (q := 72) rfl rfl rfl (fun c_16 => ?_) (fun c_16 => ?_)
          · have h := hA c_16
            clear hA hB
            refine ar_aload_n (j := 0) (q := 75) rfl rfl rfl rfl ?_
            refine ar_iload_n (j := 1) (q := 76) rfl rfl rfl rfl ?_
            refine ar_iload_n (j := 2) (q := 77) rfl rfl rfl rfl ?_
            refine ar_invv (as := [.int (nI k), .int (nI s)]) (rest := []) (b2 := (0, 0)) (b3 := (0, 0)) (q := 80) rfl rfl rfl rfl mk_113 rfl rfl rfl rfl rfl ?_
            refine am_meth_mono d _ _ _ _ _ (fun v9 m9 h9 => ?_) h
            obtain ⟨z_17, I_18, L_19, rfl, rfl, h⟩ := h9
            show am_Run am_X0 (am_meth d) 165 R 80 [some (.ref 113), some (.int (nI k)), some (.int (nI s))] [.int z_17] (am_mk I_18 L_19, 0, 0)
            obtain ⟨hA, hB⟩ := h
            refine ar_b0 am_c_eq (t := 85) (q := 83) rfl rfl rfl (fun c_20 => ?_) (fun c_20 => ?_)
            · have h := hA c_20
              clear hA hB
              refine ar_aload_n (j := 0) (q := 86) rfl rfl rfl rfl ?_
              refine ar_iload_n (j := 1) (q := 87) rfl rfl rfl rfl ?_
              refine ar_iload_n (j := 2) (q := 88) rfl rfl rfl rfl ?_
              refine ar_invv (as := [.int (nI k), .int (nI s)]) (rest := []) (b2 := (0, 0)) (b3 := (0, 0)) (q := 91) rfl rfl rfl rfl mk_113 rfl rfl rfl rfl rfl ?_
              refine am_meth_mono d _ _ _ _ _ (fun v9 m9 h9 => ?_) h
              obtain ⟨z_21, I_22, L_23, rfl, rfl, h⟩ := h9
              show am_Run am_X0 (am_meth d) 165 R 91 [some (.ref 113), some (.int (nI k)), some (.int (nI s))] [.int z_21] (am_mk I_22 L_23, 0, 0)
              obtain ⟨hA, hB⟩ := h
              refine ar_b0 am_c_le (t := 98) (q := 94) rfl rfl rfl (fun c_24 => ?_) (fun c_24 => ?_)
              · have h := hA c_24
                clear hA hB
                refine ar_bipush (v := 6) (q := 100) rfl rfl rfl ?_
                exact ar_iret rfl rfl h
              · have h := hB c_24
                clear hA hB
                refine ar_iconst (v := 0) (q := 95) rfl rfl rfl ?_
                refine ar_goto (t := 100) rfl rfl ?_
                exact ar_iret rfl rfl h
            · have h := hB c_20
              clear hA hB
              refine ar_iconst (v := 5) (q := 84) rfl rfl rfl ?_
              exact ar_iret rfl rfl h
          · have h := hB c_16
            clear hA hB
            refine ar_iconst (v := 4) (q := 73) rfl rfl rfl ?_
            exact ar_iret rfl rfl h
        · have h := hB c_12
          clear hA hB
          refine ar_iconst (v := 3) (q := 62) rfl rfl rfl ?_
          exact ar_iret rfl rfl h
      · have h := hB c_8
        clear hA hB
        refine ar_iconst (v := 2) (q := 51) rfl rfl rfl ?_
        exact ar_iret rfl rfl h
    · have c_3 := Classical.not_not.mp c_3
      have h := hA c_3
      clear hA hB
      refine ar_iconst (v := 1) (q := 26) rfl rfl rfl ?_
      exact ar_iret rfl rfl h
  · have h := hB c_2
    clear hA hB
    refine ar_bipush (v := 9) (q := 11) rfl rfl rfl ?_
    exact ar_iret rfl rfl h
theorem r_M_hoursTo_0 {d : Nat} (hd : 1 ≤ d) {R : am_R} {I : Nat → Nat → Int32} {L : Nat → Nat → Int64} {k : Nat} {s : Nat} (h : s < 60 ∧ (am_meth d 194 [.ref 113, .int (nI k), .int (I 126 s)] (am_mk I L, 0, 0) (am_ri (fun z_2 I_3 L_4 => (s < 60) ∧ ((am_ix I_3 125 s 20) ∧ (∃ j_7 : Nat, j_7 < 100 ∧ (10 * z_2) + (I_3 122 (am_n I_3 125 s)) = nI j_7 ∧ (R (some (.int (I_3 115 j_7))) (am_mk I_3 L_4, 0, 0)))))))) : am_Run am_X0 (am_meth d) 218 R 0 [some (.ref 113), some (.int (nI k)), some (.int (nI s))] [] (am_mk I L, 0, 0) := by
  refine ar_aload_n (j := 0) (q := 1) rfl rfl rfl rfl ?_
  refine ar_getf (v := .ref 115) (q := 4) rfl rfl mk_113 rfl rfl ?_
  refine ar_bipush (v := 10) (q := 6) rfl rfl rfl ?_
  refine ar_aload_n (j := 0) (q := 7) rfl rfl rfl rfl ?_
  refine ar_iload_n (j := 1) (q := 8) rfl rfl rfl rfl ?_
  refine ar_aload_n (j := 0) (q := 9) rfl rfl rfl rfl ?_
  refine ar_getf (v := .ref 126) (q := 12) rfl rfl mk_113 rfl rfl ?_
  refine ar_iload_n (j := 2) (q := 13) rfl rfl rfl rfl ?_
  obtain ⟨hx_1, h⟩ := h
  refine ar_iald (v := I 126 s) (q := 14) rfl mk_126 (am_inE rfl hx_1 (by decide)) (am_clE rfl hx_1 (by decide)) rfl ?_
  refine ar_invv (as := [.int (nI k), .int (I 126 s)]) (rest := [.int 10, .ref 115]) (b2 := (0, 0)) (b3 := (0, 0)) (q := 17) rfl rfl rfl rfl mk_113 rfl rfl rfl rfl rfl ?_
  refine am_meth_mono d _ _ _ _ _ (fun v9 m9 h9 => ?_) h
  obtain ⟨z_2, I_3, L_4, rfl, rfl, h⟩ := h9
  show am_Run am_X0 (am_meth d) 218 R 17 [some (.ref 113), some (.int (nI k)), some (.int (nI s))] [.int z_2, .int 10, .ref 115] (am_mk I_3 L_4, 0, 0)
  refine ar_ib (i := .imul) (z := 10 * z_2) (q := 18) rfl rfl rfl rfl rfl ?_
  refine ar_aload_n (j := 0) (q := 19) rfl rfl rfl rfl ?_
  refine ar_iload_n (j := 2) (q := 20) rfl rfl rfl rfl ?_
  refine ar_invv (as := [.int (nI s)]) (rest := [.int (10 * z_2), .ref 115]) (b2 := (0, 0)) (b3 := (0, 0)) (q := 23) rfl rfl rfl rfl mk_113 rfl rfl rfl rfl rfl ?_
  obtain ⟨hp_5, h⟩ := h
  obtain ⟨hp_6, h⟩ := h
  refine ok_M_townOf (by omega) rfl hp_5 hp_6 ?_
  show am_Run am_X0 (am_meth d) 218 R 23 [some (.ref 113), some (.int (nI k)), some (.int (nI s))] [.int (I_3 122 (am_n I_3 125 s)), .int (10 * z_2), .ref 115] (am_mk I_3 L_4, 0, 0)
  refine ar_ib (i := .iadd) (z := (10 * z_2) + (I_3 122 (am_n I_3 125 s))) (q := 24) rfl rfl rfl rfl rfl ?_
  obtain ⟨j_7, hx_8, hi_9, h⟩ := h
  refine ar_iald (v := I_3 115 j_7) (q := 25) rfl mk_115 (am_inE hi_9 hx_8 (by decide)) (am_clE hi_9 hx_8 (by decide)) rfl ?_
  exact ar_iret rfl rfl h
theorem r_H_why_0 {d : Nat} (hd : 1 ≤ d) {R : am_R} {I : Nat → Nat → Int32} {L : Nat → Nat → Int64} {k : Int32} {s : Int32} (h : ((0 ≤ k ∧ k < I 16 0 → (((0 ≤ s ∧ s < I 66 1 → (am_meth d 92 [.ref 99, .int k, .int s] (am_mk I L, 0, 0) (am_ri (fun z_3 I_4 L_5 => R (some (.int z_3)) (am_mk I_4 L_5, 0, 0))))) ∧ (¬ (0 ≤ s ∧ s < I 66 1) → (R (some (.int (-1 : Int32))) (am_mk (am_rf I 1) L, 0, 0)))))) ∧ (¬ (0 ≤ k ∧ k < I 16 0) → (R (some (.int (-1 : Int32))) (am_mk (am_rf I 1) L, 0, 0))))) : am_Run am_X0 (am_meth d) 11 R 0 [some (.ref 0), some (.int k), some (.int s)] [] (am_mk I L, 0, 0) := by
  refine ar_aload_n (j := 0) (q := 1) rfl rfl rfl rfl ?_
  refine ar_getf (v := .ref 16) (q := 4) rfl rfl mk_0 rfl rfl ?_
  refine ar_iload_n (j := 1) (q := 5) rfl rfl rfl rfl ?_
  refine ar_invv (as := [.int k]) (rest := []) (b2 := (0, 0)) (b3 := (0, 0)) (q := 8) rfl rfl rfl rfl mk_16 rfl rfl rfl rfl rfl ?_
  obtain ⟨hA, hB⟩ := h
  refine ok_Ke_has (by omega)  (fun c_1 => ?_) (fun c_1 => ?_)
  · have h := hA c_1
    clear hA hB
    show am_Run am_X0 (am_meth d) 11 R 8 [some (.ref 0), some (.int k), some (.int s)] [.int 1] (am_mk I L, 0, 0)
    refine ar_b0 am_c_eq (t := 22) (q := 11) rfl rfl rfl (fun c9 => absurd c9 (by decide)) (fun _ => ?_)
    refine ar_aload_n (j := 0) (q := 12) rfl rfl rfl rfl ?_
    refine ar_getf (v := .ref 66) (q := 15) rfl rfl mk_0 rfl rfl ?_
    refine ar_iload_n (j := 2) (q := 16) rfl rfl rfl rfl ?_
    refine ar_invv (as := [.int s]) (rest := []) (b2 := (0, 0)) (b3 := (0, 0)) (q := 19) rfl rfl rfl rfl mk_66 rfl rfl rfl rfl rfl ?_
    obtain ⟨hA, hB⟩ := h
    refine ok_St_has (by omega)  (fun c_2 => ?_) (fun c_2 => ?_)
    · have h := hA c_2
      clear hA hB
      show am_Run am_X0 (am_meth d) 11 R 19 [some (.ref 0), some (.int k), some (.int s)] [.int 1] (am_mk I L, 0, 0)
      refine ar_b0 am_c_ne (t := 28) (q := 22) rfl rfl rfl (fun _ => ?_) (fun c9 => absurd (by decide) c9)
      refine ar_aload_n (j := 0) (q := 29) rfl rfl rfl rfl ?_
      refine ar_getf (v := .ref 99) (q := 32) rfl rfl mk_0 rfl rfl ?_
      refine ar_iload_n (j := 1) (q := 33) rfl rfl rfl rfl ?_
      refine ar_iload_n (j := 2) (q := 34) rfl rfl rfl rfl ?_
      refine ar_invv (as := [.int k, .int s]) (rest := []) (b2 := (0, 0)) (b3 := (0, 0)) (q := 37) rfl rfl rfl rfl mk_99 rfl rfl rfl rfl rfl ?_
      refine am_meth_mono d _ _ _ _ _ (fun v9 m9 h9 => ?_) h
      obtain ⟨z_3, I_4, L_5, rfl, rfl, h⟩ := h9
      show am_Run am_X0 (am_meth d) 11 R 37 [some (.ref 0), some (.int k), some (.int s)] [.int z_3] (am_mk I_4 L_5, 0, 0)
      exact ar_iret rfl rfl h
    · have h := hB c_2
      clear hA hB
      show am_Run am_X0 (am_meth d) 11 R 19 [some (.ref 0), some (.int k), some (.int s)] [.int 0] (am_mk I L, 0, 0)
      refine ar_b0 am_c_ne (t := 28) (q := 22) rfl rfl rfl (fun c9 => absurd (by decide) c9) (fun _ => ?_)
      refine ar_aload_n (j := 0) (q := 23) rfl rfl rfl rfl ?_
      refine ar_iconst (v := (-1 : Int32)) (q := 24) rfl rfl rfl ?_
      refine ar_invv (as := [.int (-1 : Int32)]) (rest := []) (b2 := (0, 0)) (b3 := (0, 0)) (q := 27) rfl rfl rfl rfl mk_0 rfl rfl rfl rfl rfl ?_
      refine ok_refuse (j := 1) (by omega) (by decide) (by decide) ?_
      show am_Run am_X0 (am_meth d) 11 R 27 [some (.ref 0), some (.int k), some (.int s)] [.int (-1 : Int32)] (am_mk (am_rf I 1) L, 0, 0)
      exact ar_iret rfl rfl h
  · have h := hB c_1
    clear hA hB
    show am_Run am_X0 (am_meth d) 11 R 8 [some (.ref 0), some (.int k), some (.int s)] [.int 0] (am_mk I L, 0, 0)
    refine ar_b0 am_c_eq (t := 22) (q := 11) rfl rfl rfl (fun _ => ?_) (fun c9 => absurd (by decide) c9)
    refine ar_aload_n (j := 0) (q := 23) rfl rfl rfl rfl ?_
    refine ar_iconst (v := (-1 : Int32)) (q := 24) rfl rfl rfl ?_
    refine ar_invv (as := [.int (-1 : Int32)]) (rest := []) (b2 := (0, 0)) (b3 := (0, 0)) (q := 27) rfl rfl rfl rfl mk_0 rfl rfl rfl rfl rfl ?_
    refine ok_refuse (j := 1) (by omega) (by decide) (by decide) ?_
    show am_Run am_X0 (am_meth d) 11 R 27 [some (.ref 0), some (.int k), some (.int s)] [.int (-1 : Int32)] (am_mk (am_rf I 1) L, 0, 0)
    exact ar_iret rfl rfl h
theorem r_H_take_0 {d : Nat} (hd : 1 ≤ d) {R : am_R} {I : Nat → Nat → Int32} {L : Nat → Nat → Int64} {k : Int32} {s : Int32} (h : ((0 ≤ k ∧ k < I 16 0 → (((0 ≤ s ∧ s < I 66 1 → (am_meth d 92 [.ref 99, .int k, .int s] (am_mk I L, 0, 0) (am_ri (fun z_3 I_4 L_5 => ((z_3 = 0 → (∃ j_7 : Nat, j_7 < 60 ∧ s = nI j_7 ∧ (∀ I_10 : Nat → Nat → Int32, I_10 = va_up I_4 70 (upd (I_4 70) j_7 1) → (∀ I_12 : Nat → Nat → Int32, I_12 = va_up I_10 71 (upd (I_10 71) j_7 k) → (R (some (.int 1)) (am_mk I_12 L_5, 0, 0)))))) ∧ (¬ z_3 = 0 → (R (some (.int (-3 : Int32))) (am_mk (am_rf I_4 3) L_5, 0, 0)))))))) ∧ (¬ (0 ≤ s ∧ s < I 66 1) → (R (some (.int (-1 : Int32))) (am_mk (am_rf I 1) L, 0, 0)))))) ∧ (¬ (0 ≤ k ∧ k < I 16 0) → (R (some (.int (-1 : Int32))) (am_mk (am_rf I 1) L, 0, 0))))) : am_Run am_X0 (am_meth d) 12 R 0 [some (.ref 0), some (.int k), some (.int s)] [] (am_mk I L, 0, 0) := by
  refine ar_aload_n (j := 0) (q := 1) rfl rfl rfl rfl ?_
  refine ar_getf (v := .ref 16) (q := 4) rfl rfl mk_0 rfl rfl ?_
  refine ar_iload_n (j := 1) (q := 5) rfl rfl rfl rfl ?_
  refine ar_invv (as := [.int k]) (rest := []) (b2 := (0, 0)) (b3 := (0, 0)) (q := 8) rfl rfl rfl rfl mk_16 rfl rfl rfl rfl rfl ?_
  obtain ⟨hA, hB⟩ := h
  refine ok_Ke_has (by omega)  (fun c_1 => ?_) (fun c_1 => ?_)
  · have h := hA c_1
    clear hA hB
    show am_Run am_X0 (am_meth d) 12 R 8 [some (.ref 0), some (.int k), some (.int s)] [.int 1] (am_mk I L, 0, 0)
    refine ar_b0 am_c_eq (t := 22) (q := 11) rfl rfl rfl (fun c9 => absurd c9 (by decide)) (fun _ => ?_)
    refine ar_aload_n (j := 0) (q := 12) rfl rfl rfl rfl ?_
    refine ar_getf (v := .ref 66) (q := 15) rfl rfl mk_0 rfl rfl ?_
    refine ar_iload_n (j := 2) (q := 16) rfl rfl rfl rfl ?_
    refine ar_invv (as := [.int s]) (rest := []) (b2 := (0, 0)) (b3 := (0, 0)) (q := 19) rfl rfl rfl rfl mk_66 rfl rfl rfl rfl rfl ?_
    obtain ⟨hA, hB⟩ := h
    refine ok_St_has (by omega)  (fun c_2 => ?_) (fun c_2 => ?_)
    · have h := hA c_2
      clear hA hB
      show am_Run am_X0 (am_meth d) 12 R 19 [some (.ref 0), some (.int k), some (.int s)] [.int 1] (am_mk I L, 0, 0)
      refine ar_b0 am_c_ne (t := 28) (q := 22) rfl rfl rfl (fun _ => ?_) (fun c9 => absurd (by decide) c9)
      refine ar_aload_n (j := 0) (q := 29) rfl rfl rfl rfl ?_
      refine ar_getf (v := .ref 99) (q := 32) rfl rfl mk_0 rfl rfl ?_
      refine ar_iload_n (j := 1) (q := 33) rfl rfl rfl rfl ?_
      refine ar_iload_n (j := 2) (q := 34) rfl rfl rfl rfl ?_
      refine ar_invv (as := [.int k, .int s]) (rest := []) (b2 := (0, 0)) (b3 := (0, 0)) (q := 37) rfl rfl rfl rfl mk_99 rfl rfl rfl rfl rfl ?_
      refine am_meth_mono d _ _ _ _ _ (fun v9 m9 h9 => ?_) h
      obtain ⟨z_3, I_4, L_5, rfl, rfl, h⟩ := h9
      show am_Run am_X0 (am_meth d) 12 R 37 [some (.ref 0), some (.int k), some (.int s)] [.int z_3] (am_mk I_4 L_5, 0, 0)
      obtain ⟨hA, hB⟩ := h
      refine ar_b0 am_c_eq (t := 47) (q := 40) rfl rfl rfl (fun c_6 => ?_) (fun c_6 => ?_)
      · have h := hA c_6
        clear hA hB
        refine ar_aload_n (j := 0) (q := 48) rfl rfl rfl rfl ?_
        refine ar_getf (v := .ref 66) (q := 51) rfl rfl mk_0 rfl rfl ?_
        refine ar_getf (v := .ref 70) (q := 54) rfl rfl mk_66 rfl rfl ?_
        refine ar_iload_n (j := 2) (q := 55) rfl rfl rfl rfl ?_
        refine ar_iconst (v := 1) (q := 56) rfl rfl rfl ?_
        obtain ⟨j_7, hx_8, hi_9, h⟩ := h
        obtain ⟨I_10, hI_11⟩ : ∃ z : Nat → Nat → Int32, z = va_up I_4 70 (upd (I_4 70) j_7 1) := ⟨_, rfl⟩
        have h := h I_10 hI_11
        refine ar_iast (hp2 := am_mk I_10 L_5) (q := 57) rfl mk_70 (am_inE hi_9 hx_8 (by decide)) (by rw [am_clT hi_9 hx_8 (by decide), hI_11]; exact mk_s70) rfl ?_
        refine ar_aload_n (j := 0) (q := 58) rfl rfl rfl rfl ?_
        refine ar_getf (v := .ref 66) (q := 61) rfl rfl mk_0 rfl rfl ?_
        refine ar_getf (v := .ref 71) (q := 64) rfl rfl mk_66 rfl rfl ?_
        refine ar_iload_n (j := 2) (q := 65) rfl rfl rfl rfl ?_
        refine ar_iload_n (j := 1) (q := 66) rfl rfl rfl rfl ?_
        obtain ⟨I_12, hI_13⟩ : ∃ z : Nat → Nat → Int32, z = va_up I_10 71 (upd (I_10 71) j_7 k) := ⟨_, rfl⟩
        have h := h I_12 hI_13
        refine ar_iast (hp2 := am_mk I_12 L_5) (q := 67) rfl mk_71 (am_inE hi_9 hx_8 (by decide)) (by rw [am_clT hi_9 hx_8 (by decide), hI_13]; exact mk_s71) rfl ?_
        refine ar_iconst (v := 1) (q := 68) rfl rfl rfl ?_
        exact ar_iret rfl rfl h
      · have h := hB c_6
        clear hA hB
        refine ar_aload_n (j := 0) (q := 41) rfl rfl rfl rfl ?_
        refine ar_bipush (v := (-3 : Int32)) (q := 43) rfl rfl rfl ?_
        refine ar_invv (as := [.int (-3 : Int32)]) (rest := []) (b2 := (0, 0)) (b3 := (0, 0)) (q := 46) rfl rfl rfl rfl mk_0 rfl rfl rfl rfl rfl ?_
        refine ok_refuse (j := 3) (by omega) (by decide) (by decide) ?_
        show am_Run am_X0 (am_meth d) 12 R 46 [some (.ref 0), some (.int k), some (.int s)] [.int (-3 : Int32)] (am_mk (am_rf I_4 3) L_5, 0, 0)
        exact ar_iret rfl rfl h
    · have h := hB c_2
      clear hA hB
      show am_Run am_X0 (am_meth d) 12 R 19 [some (.ref 0), some (.int k), some (.int s)] [.int 0] (am_mk I L, 0, 0)
      refine ar_b0 am_c_ne (t := 28) (q := 22) rfl rfl rfl (fun c9 => absurd (by decide) c9) (fun _ => ?_)
      refine ar_aload_n (j := 0) (q := 23) rfl rfl rfl rfl ?_
      refine ar_iconst (v := (-1 : Int32)) (q := 24) rfl rfl rfl ?_
      refine ar_invv (as := [.int (-1 : Int32)]) (rest := []) (b2 := (0, 0)) (b3 := (0, 0)) (q := 27) rfl rfl rfl rfl mk_0 rfl rfl rfl rfl rfl ?_
      refine ok_refuse (j := 1) (by omega) (by decide) (by decide) ?_
      show am_Run am_X0 (am_meth d) 12 R 27 [some (.ref 0), some (.int k), some (.int s)] [.int (-1 : Int32)] (am_mk (am_rf I 1) L, 0, 0)
      exact ar_iret rfl rfl h
  · have h := hB c_1
    clear hA hB
    show am_Run am_X0 (am_meth d) 12 R 8 [some (.ref 0), some (.int k), some (.int s)] [.int 0] (am_mk I L, 0, 0)
    refine ar_b0 am_c_eq (t := 22) (q := 11) rfl rfl rfl (fun _ => ?_) (fun c9 => absurd (by decide) c9)
    refine ar_aload_n (j := 0) (q := 23) rfl rfl rfl rfl ?_
    refine ar_iconst (v := (-1 : Int32)) (q := 24) rfl rfl rfl ?_
    refine ar_invv (as := [.int (-1 : Int32)]) (rest := []) (b2 := (0, 0)) (b3 := (0, 0)) (q := 27) rfl rfl rfl rfl mk_0 rfl rfl rfl rfl rfl ?_
    refine ok_refuse (j := 1) (by omega) (by decide) (by decide) ?_
    show am_Run am_X0 (am_meth d) 12 R 27 [some (.ref 0), some (.int k), some (.int s)] [.int (-1 : Int32)] (am_mk (am_rf I 1) L, 0, 0)
    exact ar_iret rfl rfl h
theorem r_M_why_0 {d : Nat} (hd : 1 ≤ d) {R : am_R} {I : Nat → Nat → Int32} {L : Nat → Nat → Int64} {k : Int32} {s : Int32} (h : ((0 ≤ k ∧ k < I 113 4 → (((0 ≤ s ∧ s < I 113 14 → (am_meth d 165 [.ref 113, .int k, .int s] (am_mk I L, 0, 0) (am_ri (fun z_3 I_4 L_5 => R (some (.int z_3)) (am_mk I_4 L_5, 0, 0))))) ∧ (¬ (0 ≤ s ∧ s < I 113 14) → (R (some (.int (-1 : Int32))) (am_mk (am_no I 1) L, 0, 0)))))) ∧ (¬ (0 ≤ k ∧ k < I 113 4) → (R (some (.int (-1 : Int32))) (am_mk (am_no I 1) L, 0, 0))))) : am_Run am_X0 (am_meth d) 163 R 0 [some (.ref 113), some (.int k), some (.int s)] [] (am_mk I L, 0, 0) := by
  refine ar_aload_n (j := 0) (q := 1) rfl rfl rfl rfl ?_
  refine ar_iload_n (j := 1) (q := 2) rfl rfl rfl rfl ?_
  refine ar_invv (as := [.int k]) (rest := []) (b2 := (0, 0)) (b3 := (0, 0)) (q := 5) rfl rfl rfl rfl mk_113 rfl rfl rfl rfl rfl ?_
  obtain ⟨hA, hB⟩ := h
  refine ok_M_isKeeper (by omega)  (fun c_1 => ?_) (fun c_1 => ?_)
  · have h := hA c_1
    clear hA hB
    show am_Run am_X0 (am_meth d) 163 R 5 [some (.ref 113), some (.int k), some (.int s)] [.int 1] (am_mk I L, 0, 0)
    refine ar_b0 am_c_eq (t := 16) (q := 8) rfl rfl rfl (fun c9 => absurd c9 (by decide)) (fun _ => ?_)
    refine ar_aload_n (j := 0) (q := 9) rfl rfl rfl rfl ?_
    refine ar_iload_n (j := 2) (q := 10) rfl rfl rfl rfl ?_
    refine ar_invv (as := [.int s]) (rest := []) (b2 := (0, 0)) (b3 := (0, 0)) (q := 13) rfl rfl rfl rfl mk_113 rfl rfl rfl rfl rfl ?_
    obtain ⟨hA, hB⟩ := h
    refine ok_M_isStay (by omega)  (fun c_2 => ?_) (fun c_2 => ?_)
    · have h := hA c_2
      clear hA hB
      show am_Run am_X0 (am_meth d) 163 R 13 [some (.ref 113), some (.int k), some (.int s)] [.int 1] (am_mk I L, 0, 0)
      refine ar_b0 am_c_ne (t := 22) (q := 16) rfl rfl rfl (fun _ => ?_) (fun c9 => absurd (by decide) c9)
      refine ar_aload_n (j := 0) (q := 23) rfl rfl rfl rfl ?_
      refine ar_iload_n (j := 1) (q := 24) rfl rfl rfl rfl ?_
      refine ar_iload_n (j := 2) (q := 25) rfl rfl rfl rfl ?_
      refine ar_invv (as := [.int k, .int s]) (rest := []) (b2 := (0, 0)) (b3 := (0, 0)) (q := 28) rfl rfl rfl rfl mk_113 rfl rfl rfl rfl rfl ?_
      refine am_meth_mono d _ _ _ _ _ (fun v9 m9 h9 => ?_) h
      obtain ⟨z_3, I_4, L_5, rfl, rfl, h⟩ := h9
      show am_Run am_X0 (am_meth d) 163 R 28 [some (.ref 113), some (.int k), some (.int s)] [.int z_3] (am_mk I_4 L_5, 0, 0)
      exact ar_iret rfl rfl h
    · have h := hB c_2
      clear hA hB
      show am_Run am_X0 (am_meth d) 163 R 13 [some (.ref 113), some (.int k), some (.int s)] [.int 0] (am_mk I L, 0, 0)
      refine ar_b0 am_c_ne (t := 22) (q := 16) rfl rfl rfl (fun c9 => absurd (by decide) c9) (fun _ => ?_)
      refine ar_aload_n (j := 0) (q := 17) rfl rfl rfl rfl ?_
      refine ar_iconst (v := (-1 : Int32)) (q := 18) rfl rfl rfl ?_
      refine ar_invv (as := [.int (-1 : Int32)]) (rest := []) (b2 := (0, 0)) (b3 := (0, 0)) (q := 21) rfl rfl rfl rfl mk_113 rfl rfl rfl rfl rfl ?_
      refine ok_no (j := 1) (by omega) (by decide) (by decide) ?_
      show am_Run am_X0 (am_meth d) 163 R 21 [some (.ref 113), some (.int k), some (.int s)] [.int (-1 : Int32)] (am_mk (am_no I 1) L, 0, 0)
      exact ar_iret rfl rfl h
  · have h := hB c_1
    clear hA hB
    show am_Run am_X0 (am_meth d) 163 R 5 [some (.ref 113), some (.int k), some (.int s)] [.int 0] (am_mk I L, 0, 0)
    refine ar_b0 am_c_eq (t := 16) (q := 8) rfl rfl rfl (fun _ => ?_) (fun c9 => absurd (by decide) c9)
    refine ar_aload_n (j := 0) (q := 17) rfl rfl rfl rfl ?_
    refine ar_iconst (v := (-1 : Int32)) (q := 18) rfl rfl rfl ?_
    refine ar_invv (as := [.int (-1 : Int32)]) (rest := []) (b2 := (0, 0)) (b3 := (0, 0)) (q := 21) rfl rfl rfl rfl mk_113 rfl rfl rfl rfl rfl ?_
    refine ok_no (j := 1) (by omega) (by decide) (by decide) ?_
    show am_Run am_X0 (am_meth d) 163 R 21 [some (.ref 113), some (.int k), some (.int s)] [.int (-1 : Int32)] (am_mk (am_no I 1) L, 0, 0)
    exact ar_iret rfl rfl h
theorem r_M_take_0 {d : Nat} (hd : 1 ≤ d) {R : am_R} {I : Nat → Nat → Int32} {L : Nat → Nat → Int64} {k : Int32} {s : Int32} (h : ((0 ≤ k ∧ k < I 113 4 → (((0 ≤ s ∧ s < I 113 14 → (am_meth d 165 [.ref 113, .int k, .int s] (am_mk I L, 0, 0) (am_ri (fun z_3 I_4 L_5 => ((z_3 = 0 → (∃ j_7 : Nat, j_7 < 60 ∧ s = nI j_7 ∧ (∀ I_10 : Nat → Nat → Int32, I_10 = va_up I_4 128 (upd (I_4 128) j_7 1) → (∀ I_12 : Nat → Nat → Int32, I_12 = va_up I_10 129 (upd (I_10 129) j_7 k) → (R (some (.int 1)) (am_mk I_12 L_5, 0, 0)))))) ∧ (¬ z_3 = 0 → (R (some (.int (-3 : Int32))) (am_mk (am_no I_4 3) L_5, 0, 0)))))))) ∧ (¬ (0 ≤ s ∧ s < I 113 14) → (R (some (.int (-1 : Int32))) (am_mk (am_no I 1) L, 0, 0)))))) ∧ (¬ (0 ≤ k ∧ k < I 113 4) → (R (some (.int (-1 : Int32))) (am_mk (am_no I 1) L, 0, 0))))) : am_Run am_X0 (am_meth d) 191 R 0 [some (.ref 113), some (.int k), some (.int s)] [] (am_mk I L, 0, 0) := by
  refine ar_aload_n (j := 0) (q := 1) rfl rfl rfl rfl ?_
  refine ar_iload_n (j := 1) (q := 2) rfl rfl rfl rfl ?_
  refine ar_invv (as := [.int k]) (rest := []) (b2 := (0, 0)) (b3 := (0, 0)) (q := 5) rfl rfl rfl rfl mk_113 rfl rfl rfl rfl rfl ?_
  obtain ⟨hA, hB⟩ := h
  refine ok_M_isKeeper (by omega)  (fun c_1 => ?_) (fun c_1 => ?_)
  · have h := hA c_1
    clear hA hB
    show am_Run am_X0 (am_meth d) 191 R 5 [some (.ref 113), some (.int k), some (.int s)] [.int 1] (am_mk I L, 0, 0)
    refine ar_b0 am_c_eq (t := 16) (q := 8) rfl rfl rfl (fun c9 => absurd c9 (by decide)) (fun _ => ?_)
    refine ar_aload_n (j := 0) (q := 9) rfl rfl rfl rfl ?_
    refine ar_iload_n (j := 2) (q := 10) rfl rfl rfl rfl ?_
    refine ar_invv (as := [.int s]) (rest := []) (b2 := (0, 0)) (b3 := (0, 0)) (q := 13) rfl rfl rfl rfl mk_113 rfl rfl rfl rfl rfl ?_
    obtain ⟨hA, hB⟩ := h
    refine ok_M_isStay (by omega)  (fun c_2 => ?_) (fun c_2 => ?_)
    · have h := hA c_2
      clear hA hB
      show am_Run am_X0 (am_meth d) 191 R 13 [some (.ref 113), some (.int k), some (.int s)] [.int 1] (am_mk I L, 0, 0)
      refine ar_b0 am_c_ne (t := 22) (q := 16) rfl rfl rfl (fun _ => ?_) (fun c9 => absurd (by decide) c9)
      refine ar_aload_n (j := 0) (q := 23) rfl rfl rfl rfl ?_
      refine ar_iload_n (j := 1) (q := 24) rfl rfl rfl rfl ?_
      refine ar_iload_n (j := 2) (q := 25) rfl rfl rfl rfl ?_
      refine ar_invv (as := [.int k, .int s]) (rest := []) (b2 := (0, 0)) (b3 := (0, 0)) (q := 28) rfl rfl rfl rfl mk_113 rfl rfl rfl rfl rfl ?_
      refine am_meth_mono d _ _ _ _ _ (fun v9 m9 h9 => ?_) h
      obtain ⟨z_3, I_4, L_5, rfl, rfl, h⟩ := h9
      show am_Run am_X0 (am_meth d) 191 R 28 [some (.ref 113), some (.int k), some (.int s)] [.int z_3] (am_mk I_4 L_5, 0, 0)
      obtain ⟨hA, hB⟩ := h
      refine ar_b0 am_c_eq (t := 38) (q := 31) rfl rfl rfl (fun c_6 => ?_) (fun c_6 => ?_)
      · have h := hA c_6
        clear hA hB
        refine ar_aload_n (j := 0) (q := 39) rfl rfl rfl rfl ?_
        refine ar_getf (v := .ref 128) (q := 42) rfl rfl mk_113 rfl rfl ?_
        refine ar_iload_n (j := 2) (q := 43) rfl rfl rfl rfl ?_
        refine ar_iconst (v := 1) (q := 44) rfl rfl rfl ?_
        obtain ⟨j_7, hx_8, hi_9, h⟩ := h
        obtain ⟨I_10, hI_11⟩ : ∃ z : Nat → Nat → Int32, z = va_up I_4 128 (upd (I_4 128) j_7 1) := ⟨_, rfl⟩
        have h := h I_10 hI_11
        refine ar_iast (hp2 := am_mk I_10 L_5) (q := 45) rfl mk_128 (am_inE hi_9 hx_8 (by decide)) (by rw [am_clT hi_9 hx_8 (by decide), hI_11]; exact mk_s128) rfl ?_
        refine ar_aload_n (j := 0) (q := 46) rfl rfl rfl rfl ?_
        refine ar_getf (v := .ref 129) (q := 49) rfl rfl mk_113 rfl rfl ?_
        refine ar_iload_n (j := 2) (q := 50) rfl rfl rfl rfl ?_
        refine ar_iload_n (j := 1) (q := 51) rfl rfl rfl rfl ?_
        obtain ⟨I_12, hI_13⟩ : ∃ z : Nat → Nat → Int32, z = va_up I_10 129 (upd (I_10 129) j_7 k) := ⟨_, rfl⟩
        have h := h I_12 hI_13
        refine ar_iast (hp2 := am_mk I_12 L_5) (q := 52) rfl mk_129 (am_inE hi_9 hx_8 (by decide)) (by rw [am_clT hi_9 hx_8 (by decide), hI_13]; exact mk_s129) rfl ?_
        refine ar_iconst (v := 1) (q := 53) rfl rfl rfl ?_
        exact ar_iret rfl rfl h
      · have h := hB c_6
        clear hA hB
        refine ar_aload_n (j := 0) (q := 32) rfl rfl rfl rfl ?_
        refine ar_bipush (v := (-3 : Int32)) (q := 34) rfl rfl rfl ?_
        refine ar_invv (as := [.int (-3 : Int32)]) (rest := []) (b2 := (0, 0)) (b3 := (0, 0)) (q := 37) rfl rfl rfl rfl mk_113 rfl rfl rfl rfl rfl ?_
        refine ok_no (j := 3) (by omega) (by decide) (by decide) ?_
        show am_Run am_X0 (am_meth d) 191 R 37 [some (.ref 113), some (.int k), some (.int s)] [.int (-3 : Int32)] (am_mk (am_no I_4 3) L_5, 0, 0)
        exact ar_iret rfl rfl h
    · have h := hB c_2
      clear hA hB
      show am_Run am_X0 (am_meth d) 191 R 13 [some (.ref 113), some (.int k), some (.int s)] [.int 0] (am_mk I L, 0, 0)
      refine ar_b0 am_c_ne (t := 22) (q := 16) rfl rfl rfl (fun c9 => absurd (by decide) c9) (fun _ => ?_)
      refine ar_aload_n (j := 0) (q := 17) rfl rfl rfl rfl ?_
      refine ar_iconst (v := (-1 : Int32)) (q := 18) rfl rfl rfl ?_
      refine ar_invv (as := [.int (-1 : Int32)]) (rest := []) (b2 := (0, 0)) (b3 := (0, 0)) (q := 21) rfl rfl rfl rfl mk_113 rfl rfl rfl rfl rfl ?_
      refine ok_no (j := 1) (by omega) (by decide) (by decide) ?_
      show am_Run am_X0 (am_meth d) 191 R 21 [some (.ref 113), some (.int k), some (.int s)] [.int (-1 : Int32)] (am_mk (am_no I 1) L, 0, 0)
      exact ar_iret rfl rfl h
  · have h := hB c_1
    clear hA hB
    show am_Run am_X0 (am_meth d) 191 R 5 [some (.ref 113), some (.int k), some (.int s)] [.int 0] (am_mk I L, 0, 0)
    refine ar_b0 am_c_eq (t := 16) (q := 8) rfl rfl rfl (fun _ => ?_) (fun c9 => absurd (by decide) c9)
    refine ar_aload_n (j := 0) (q := 17) rfl rfl rfl rfl ?_
    refine ar_iconst (v := (-1 : Int32)) (q := 18) rfl rfl rfl ?_
    refine ar_invv (as := [.int (-1 : Int32)]) (rest := []) (b2 := (0, 0)) (b3 := (0, 0)) (q := 21) rfl rfl rfl rfl mk_113 rfl rfl rfl rfl rfl ?_
    refine ok_no (j := 1) (by omega) (by decide) (by decide) ?_
    show am_Run am_X0 (am_meth d) 191 R 21 [some (.ref 113), some (.int k), some (.int s)] [.int (-1 : Int32)] (am_mk (am_no I 1) L, 0, 0)
    exact ar_iret rfl rfl h
