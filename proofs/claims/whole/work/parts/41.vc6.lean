theorem r_Keepers_areAlike_0 {d : Nat} {R : am_R} {I : Nat → Nat → Int32} {L : Nat → Nat → Int64} {a : Nat} {b : Nat} (h : a < 20 ∧ (b < 20 ∧ (am_Run am_X0 (am_meth d) 55 R 21 [some (.ref 16), none, none, some (.int (I 20 a)), some (.int (I 20 b)), some (.int 0), some (.int 0)] [] (am_mk I L, 0, 0)))) : am_Run am_X0 (am_meth d) 55 R 0 [some (.ref 16), some (.int (nI a)), some (.int (nI b)), none, none, none, none] [] (am_mk I L, 0, 0) := by
  refine ar_aload_n (j := 0) (q := 1) rfl rfl rfl rfl ?_
  refine ar_getf (v := .ref 20) (q := 4) rfl rfl mk_16 rfl rfl ?_
  refine ar_iload_n (j := 1) (q := 5) rfl rfl rfl rfl ?_
  obtain ⟨hx_1, h⟩ := h
  refine ar_iald (v := I 20 a) (q := 6) rfl mk_20 (am_inE rfl hx_1 (by decide)) (am_clE rfl hx_1 (by decide)) rfl ?_
  refine ar_istore_n (j := 3) (ls' := [some (.ref 16), some (.int (nI a)), some (.int (nI b)), some (.int (I 20 a)), none, none, none]) (q := 7) rfl rfl rfl rfl rfl ?_
  refine ar_aload_n (j := 0) (q := 8) rfl rfl rfl rfl ?_
  refine ar_getf (v := .ref 20) (q := 11) rfl rfl mk_16 rfl rfl ?_
  refine ar_iload_n (j := 2) (q := 12) rfl rfl rfl rfl ?_
  obtain ⟨hx_2, h⟩ := h
  refine ar_iald (v := I 20 b) (q := 13) rfl mk_20 (am_inE rfl hx_2 (by decide)) (am_clE rfl hx_2 (by decide)) rfl ?_
  refine ar_istore (ls' := [some (.ref 16), some (.int (nI a)), some (.int (nI b)), some (.int (I 20 a)), some (.int (I 20 b)), none, none]) (q := 15) rfl rfl rfl rfl ?_
  refine ar_iconst (v := 0) (q := 16) rfl rfl rfl ?_
  refine ar_istore (ls' := [some (.ref 16), some (.int (nI a)), some (.int (nI b)), some (.int (I 20 a)), some (.int (I 20 b)), some (.int 0), none]) (q := 18) rfl rfl rfl rfl ?_
  refine ar_iconst (v := 0) (q := 19) rfl rfl rfl ?_
  refine ar_istore (ls' := [some (.ref 16), some (.int (nI a)), some (.int (nI b)), some (.int (I 20 a)), some (.int (I 20 b)), some (.int 0), some (.int 0)]) (q := 21) rfl rfl rfl rfl ?_
  exact am_Run.weak (ls' := _) (by exact ⟨rfl, ⟨rfl, ⟨rfl, ⟨rfl, ⟨rfl, trivial⟩⟩⟩⟩⟩) h
theorem r_Keepers_areAlike_21 {d : Nat} {R : am_R} {I : Nat → Nat → Int32} {L : Nat → Nat → Int64} {x : Int32} {y : Int32} {m : Int32} {i : Nat} (h : (((nI i) < 5 → ((((x - x / 10 * 10) = (y - y / 10 * 10) → (am_Run am_X0 (am_meth d) 55 R 21 [some (.ref 16), none, none, some (.int (x / 10)), some (.int (y / 10)), some (.int m), some (.int (nI (i + 1)))] [] (am_mk I L, 0, 0))) ∧ (¬ (x - x / 10 * 10) = (y - y / 10 * 10) → (am_Run am_X0 (am_meth d) 55 R 21 [some (.ref 16), none, none, some (.int (x / 10)), some (.int (y / 10)), some (.int (m + 1)), some (.int (nI (i + 1)))] [] (am_mk I L, 0, 0)))))) ∧ (¬ (nI i) < 5 → (((m ≤ 1 → (R (some (.int 1)) (am_mk I L, 0, 0))) ∧ (¬ m ≤ 1 → (R (some (.int 0)) (am_mk I L, 0, 0)))))))) : am_Run am_X0 (am_meth d) 55 R 21 [some (.ref 16), none, none, some (.int x), some (.int y), some (.int m), some (.int (nI i))] [] (am_mk I L, 0, 0) := by
  refine ar_iload (q := 23) rfl rfl rfl ?_
  refine ar_iconst (v := 5) (q := 24) rfl rfl rfl ?_
  obtain ⟨hA, hB⟩ := h
  refine ar_br am_d_ge (t := 60) (q := 27) rfl rfl rfl (fun c_1 => ?_) (fun c_1 => ?_)
  · have h := hB c_1
    clear hA hB
    refine ar_iload (q := 62) rfl rfl rfl ?_
    refine ar_iconst (v := 1) (q := 63) rfl rfl rfl ?_
    obtain ⟨hA, hB⟩ := h
    refine ar_br am_d_gt (t := 70) (q := 66) rfl rfl rfl (fun c_3 => ?_) (fun c_3 => ?_)
    · have h := hB c_3
      clear hA hB
      refine ar_iconst (v := 0) (q := 71) rfl rfl rfl ?_
      exact ar_zret rfl rfl (Or.inl rfl) h
    · have c_3 := Classical.not_not.mp c_3
      have h := hA c_3
      clear hA hB
      refine ar_iconst (v := 1) (q := 67) rfl rfl rfl ?_
      refine ar_goto (t := 71) rfl rfl ?_
      exact ar_zret rfl rfl (Or.inr rfl) h
  · have c_1 := Classical.not_not.mp c_1
    have h := hA c_1
    clear hA hB
    refine ar_iload_n (j := 3) (q := 28) rfl rfl rfl rfl ?_
    refine ar_bipush (v := 10) (q := 30) rfl rfl rfl ?_
    refine ar_irem (q := 31) rfl (by decide) rfl ?_
    refine ar_iload (q := 33) rfl rfl rfl ?_
    refine ar_bipush (v := 10) (q := 35) rfl rfl rfl ?_
    refine ar_irem (q := 36) rfl (by decide) rfl ?_
    obtain ⟨hA, hB⟩ := h
    refine ar_br am_c_eq (t := 42) (q := 39) rfl rfl rfl (fun c_2 => ?_) (fun c_2 => ?_)
    · have h := hA c_2
      clear hA hB
      refine ar_iload_n (j := 3) (q := 43) rfl rfl rfl rfl ?_
      refine ar_bipush (v := 10) (q := 45) rfl rfl rfl ?_
      refine ar_idiv (q := 46) rfl (by decide) rfl ?_
      refine ar_istore_n (j := 3) (ls' := [some (.ref 16), none, none, some (.int (x / 10)), some (.int y), some (.int m), some (.int (nI i))]) (q := 47) rfl rfl rfl rfl rfl ?_
      refine ar_iload (q := 49) rfl rfl rfl ?_
      refine ar_bipush (v := 10) (q := 51) rfl rfl rfl ?_
      refine ar_idiv (q := 52) rfl (by decide) rfl ?_
      refine ar_istore (ls' := [some (.ref 16), none, none, some (.int (x / 10)), some (.int (y / 10)), some (.int m), some (.int (nI i))]) (q := 54) rfl rfl rfl rfl ?_
      refine ar_iinc (v := nI (i + 1)) (ls' := [some (.ref 16), none, none, some (.int (x / 10)), some (.int (y / 10)), some (.int m), some (.int (nI (i + 1)))]) (q := 57) rfl rfl rfl (nI_1 _) rfl rfl ?_
      refine ar_goto (t := 21) rfl rfl ?_
      exact am_Run.weak (ls' := _) (by exact ⟨rfl, ⟨rfl, ⟨rfl, ⟨rfl, ⟨rfl, trivial⟩⟩⟩⟩⟩) h
    · have h := hB c_2
      clear hA hB
      refine ar_iinc (v := m + 1) (ls' := [some (.ref 16), none, none, some (.int x), some (.int y), some (.int (m + 1)), some (.int (nI i))]) (q := 42) rfl rfl rfl rfl rfl rfl ?_
      refine ar_iload_n (j := 3) (q := 43) rfl rfl rfl rfl ?_
      refine ar_bipush (v := 10) (q := 45) rfl rfl rfl ?_
      refine ar_idiv (q := 46) rfl (by decide) rfl ?_
      refine ar_istore_n (j := 3) (ls' := [some (.ref 16), none, none, some (.int (x / 10)), some (.int y), some (.int (m + 1)), some (.int (nI i))]) (q := 47) rfl rfl rfl rfl rfl ?_
      refine ar_iload (q := 49) rfl rfl rfl ?_
      refine ar_bipush (v := 10) (q := 51) rfl rfl rfl ?_
      refine ar_idiv (q := 52) rfl (by decide) rfl ?_
      refine ar_istore (ls' := [some (.ref 16), none, none, some (.int (x / 10)), some (.int (y / 10)), some (.int (m + 1)), some (.int (nI i))]) (q := 54) rfl rfl rfl rfl ?_
      refine ar_iinc (v := nI (i + 1)) (ls' := [some (.ref 16), none, none, some (.int (x / 10)), some (.int (y / 10)), some (.int (m + 1)), some (.int (nI (i + 1)))]) (q := 57) rfl rfl rfl (nI_1 _) rfl rfl ?_
      refine ar_goto (t := 21) rfl rfl ?_
      exact am_Run.weak (ls' := _) (by exact ⟨rfl, ⟨rfl, ⟨rfl, ⟨rfl, ⟨rfl, trivial⟩⟩⟩⟩⟩) h
theorem r_M_alike_0 {d : Nat} {R : am_R} {I : Nat → Nat → Int32} {L : Nat → Nat → Int64} {a : Nat} {b : Nat} (h : a < 20 ∧ (b < 20 ∧ (am_Run am_X0 (am_meth d) 189 R 21 [some (.ref 113), none, none, some (.int 0), some (.int (I 120 a)), some (.int (I 120 b)), some (.int 0)] [] (am_mk I L, 0, 0)))) : am_Run am_X0 (am_meth d) 189 R 0 [some (.ref 113), some (.int (nI a)), some (.int (nI b)), none, none, none, none] [] (am_mk I L, 0, 0) := by
  refine ar_iconst (v := 0) (q := 1) rfl rfl rfl ?_
  refine ar_istore_n (j := 3) (ls' := [some (.ref 113), some (.int (nI a)), some (.int (nI b)), some (.int 0), none, none, none]) (q := 2) rfl rfl rfl rfl rfl ?_
  refine ar_aload_n (j := 0) (q := 3) rfl rfl rfl rfl ?_
  refine ar_getf (v := .ref 120) (q := 6) rfl rfl mk_113 rfl rfl ?_
  refine ar_iload_n (j := 1) (q := 7) rfl rfl rfl rfl ?_
  obtain ⟨hx_1, h⟩ := h
  refine ar_iald (v := I 120 a) (q := 8) rfl mk_120 (am_inE rfl hx_1 (by decide)) (am_clE rfl hx_1 (by decide)) rfl ?_
  refine ar_istore (ls' := [some (.ref 113), some (.int (nI a)), some (.int (nI b)), some (.int 0), some (.int (I 120 a)), none, none]) (q := 10) rfl rfl rfl rfl ?_
  refine ar_aload_n (j := 0) (q := 11) rfl rfl rfl rfl ?_
  refine ar_getf (v := .ref 120) (q := 14) rfl rfl mk_113 rfl rfl ?_
  refine ar_iload_n (j := 2) (q := 15) rfl rfl rfl rfl ?_
  obtain ⟨hx_2, h⟩ := h
  refine ar_iald (v := I 120 b) (q := 16) rfl mk_120 (am_inE rfl hx_2 (by decide)) (am_clE rfl hx_2 (by decide)) rfl ?_
  refine ar_istore (ls' := [some (.ref 113), some (.int (nI a)), some (.int (nI b)), some (.int 0), some (.int (I 120 a)), some (.int (I 120 b)), none]) (q := 18) rfl rfl rfl rfl ?_
  refine ar_iconst (v := 0) (q := 19) rfl rfl rfl ?_
  refine ar_istore (ls' := [some (.ref 113), some (.int (nI a)), some (.int (nI b)), some (.int 0), some (.int (I 120 a)), some (.int (I 120 b)), some (.int 0)]) (q := 21) rfl rfl rfl rfl ?_
  exact am_Run.weak (ls' := _) (by exact ⟨rfl, ⟨rfl, ⟨rfl, ⟨rfl, ⟨rfl, trivial⟩⟩⟩⟩⟩) h
theorem r_M_alike_21 {d : Nat} {R : am_R} {I : Nat → Nat → Int32} {L : Nat → Nat → Int64} {m : Int32} {x : Int32} {y : Int32} {i : Nat} (h : (((nI i) < 5 → ((((x - x / 10 * 10) = (y - y / 10 * 10) → (am_Run am_X0 (am_meth d) 189 R 21 [some (.ref 113), none, none, some (.int m), some (.int (x / 10)), some (.int (y / 10)), some (.int (nI (i + 1)))] [] (am_mk I L, 0, 0))) ∧ (¬ (x - x / 10 * 10) = (y - y / 10 * 10) → (am_Run am_X0 (am_meth d) 189 R 21 [some (.ref 113), none, none, some (.int (m + 1)), some (.int (x / 10)), some (.int (y / 10)), some (.int (nI (i + 1)))] [] (am_mk I L, 0, 0)))))) ∧ (¬ (nI i) < 5 → (((m < 2 → (R (some (.int 1)) (am_mk I L, 0, 0))) ∧ (¬ m < 2 → (R (some (.int 0)) (am_mk I L, 0, 0)))))))) : am_Run am_X0 (am_meth d) 189 R 21 [some (.ref 113), none, none, some (.int m), some (.int x), some (.int y), some (.int (nI i))] [] (am_mk I L, 0, 0) := by
  refine ar_iload (q := 23) rfl rfl rfl ?_
  refine ar_iconst (v := 5) (q := 24) rfl rfl rfl ?_
  obtain ⟨hA, hB⟩ := h
  refine ar_br am_d_ge (t := 63) (q := 27) rfl rfl rfl (fun c_1 => ?_) (fun c_1 => ?_)
  · have h := hB c_1
    clear hA hB
    refine ar_iload_n (j := 3) (q := 64) rfl rfl rfl rfl ?_
    refine ar_iconst (v := 2) (q := 65) rfl rfl rfl ?_
    obtain ⟨hA, hB⟩ := h
    refine ar_br am_d_ge (t := 72) (q := 68) rfl rfl rfl (fun c_3 => ?_) (fun c_3 => ?_)
    · have h := hB c_3
      clear hA hB
      refine ar_iconst (v := 0) (q := 73) rfl rfl rfl ?_
      exact ar_zret rfl rfl (Or.inl rfl) h
    · have c_3 := Classical.not_not.mp c_3
      have h := hA c_3
      clear hA hB
      refine ar_iconst (v := 1) (q := 69) rfl rfl rfl ?_
      refine ar_goto (t := 73) rfl rfl ?_
      exact ar_zret rfl rfl (Or.inr rfl) h
  · have c_1 := Classical.not_not.mp c_1
    have h := hA c_1
    clear hA hB
    refine ar_iload (q := 29) rfl rfl rfl ?_
    refine ar_bipush (v := 10) (q := 31) rfl rfl rfl ?_
    refine ar_irem (q := 32) rfl (by decide) rfl ?_
    refine ar_iload (q := 34) rfl rfl rfl ?_
    refine ar_bipush (v := 10) (q := 36) rfl rfl rfl ?_
    refine ar_irem (q := 37) rfl (by decide) rfl ?_
    obtain ⟨hA, hB⟩ := h
    refine ar_br am_c_eq (t := 43) (q := 40) rfl rfl rfl (fun c_2 => ?_) (fun c_2 => ?_)
    · have h := hA c_2
      clear hA hB
      refine ar_iload (q := 45) rfl rfl rfl ?_
      refine ar_bipush (v := 10) (q := 47) rfl rfl rfl ?_
      refine ar_idiv (q := 48) rfl (by decide) rfl ?_
      refine ar_istore (ls' := [some (.ref 113), none, none, some (.int m), some (.int (x / 10)), some (.int y), some (.int (nI i))]) (q := 50) rfl rfl rfl rfl ?_
      refine ar_iload (q := 52) rfl rfl rfl ?_
      refine ar_bipush (v := 10) (q := 54) rfl rfl rfl ?_
      refine ar_idiv (q := 55) rfl (by decide) rfl ?_
      refine ar_istore (ls' := [some (.ref 113), none, none, some (.int m), some (.int (x / 10)), some (.int (y / 10)), some (.int (nI i))]) (q := 57) rfl rfl rfl rfl ?_
      refine ar_iinc (v := nI (i + 1)) (ls' := [some (.ref 113), none, none, some (.int m), some (.int (x / 10)), some (.int (y / 10)), some (.int (nI (i + 1)))]) (q := 60) rfl rfl rfl (nI_1 _) rfl rfl ?_
      refine ar_goto (t := 21) rfl rfl ?_
      exact am_Run.weak (ls' := _) (by exact ⟨rfl, ⟨rfl, ⟨rfl, ⟨rfl, ⟨rfl, trivial⟩⟩⟩⟩⟩) h
    · have h := hB c_2
      clear hA hB
      refine ar_iinc (v := m + 1) (ls' := [some (.ref 113), none, none, some (.int (m + 1)), some (.int x), some (.int y), some (.int (nI i))]) (q := 43) rfl rfl rfl rfl rfl rfl ?_
      refine ar_iload (q := 45) rfl rfl rfl ?_
      refine ar_bipush (v := 10) (q := 47) rfl rfl rfl ?_
      refine ar_idiv (q := 48) rfl (by decide) rfl ?_
      refine ar_istore (ls' := [some (.ref 113), none, none, some (.int (m + 1)), some (.int (x / 10)), some (.int y), some (.int (nI i))]) (q := 50) rfl rfl rfl rfl ?_
      refine ar_iload (q := 52) rfl rfl rfl ?_
      refine ar_bipush (v := 10) (q := 54) rfl rfl rfl ?_
      refine ar_idiv (q := 55) rfl (by decide) rfl ?_
      refine ar_istore (ls' := [some (.ref 113), none, none, some (.int (m + 1)), some (.int (x / 10)), some (.int (y / 10)), some (.int (nI i))]) (q := 57) rfl rfl rfl rfl ?_
      refine ar_iinc (v := nI (i + 1)) (ls' := [some (.ref 113), none, none, some (.int (m + 1)), some (.int (x / 10)), some (.int (y / 10)), some (.int (nI (i + 1)))]) (q := 60) rfl rfl rfl (nI_1 _) rfl rfl ?_
      refine ar_goto (t := 21) rfl rfl ?_
      exact am_Run.weak (ls' := _) (by exact ⟨rfl, ⟨rfl, ⟨rfl, ⟨rfl, ⟨rfl, trivial⟩⟩⟩⟩⟩) h
