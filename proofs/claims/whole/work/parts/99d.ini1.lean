/-! the parts of the class are made -/
set_option maxRecDepth 20000 in
theorem n_Towns2 {d : Nat} {R : am_R} {pre : List am_C} (hd : 2 ≤ d) (hp : pre.length = 2) (h : R none (pre ++ [.inr (.inr (.inr (11, [.ref 3, .ref 4, .ref 5]))), .inl (0, 10, (fun _ => 0)), .inl (0, 5, (am_fi (fun _ => 0) 180 5)), .inr (.inr (.inl (10, fun i => some (6 + i)))), .inl (0, 10, (upd (am_fi (fun _ => 0) 24 10) 0 0)), .inl (0, 10, (upd (am_fi (fun _ => 0) 24 10) 1 0)), .inl (0, 10, (upd (am_fi (fun _ => 0) 24 10) 2 0)), .inl (0, 10, (upd (am_fi (fun _ => 0) 24 10) 3 0)), .inl (0, 10, (upd (am_fi (fun _ => 0) 24 10) 4 0)), .inl (0, 10, (upd (am_fi (fun _ => 0) 24 10) 5 0)), .inl (0, 10, (upd (am_fi (fun _ => 0) 24 10) 6 0)), .inl (0, 10, (upd (am_fi (fun _ => 0) 24 10) 7 0)), .inl (0, 10, (upd (am_fi (fun _ => 0) 24 10) 8 0)), .inl (0, 10, (upd (am_fi (fun _ => 0) 24 10) 9 0))], 0, 0)) : am_meth d 145 [.ref 2] (pre ++ [.inr (.inr (.inr (11, [.null, .null, .null])))], 13, 125) R := by
  obtain ⟨d, rfl⟩ : ∃ e, d = e + 1 := ⟨d - 1, by omega⟩
  refine ar_in (ls := [some (.ref 2), none]) rfl rfl rfl ?_
  refine ar_aload_n (j := 0) (q := 1) rfl rfl rfl rfl ?_
  refine ar_oi (q := 4) rfl rfl (by decide) rfl ?_
  refine ar_aload_n (j := 0) (q := 5) rfl rfl rfl rfl ?_
  refine ar_bipush (v := 10) (q := 7) rfl rfl rfl ?_
  refine ar_newa (t := 0) (m := 10) (n := 3) (hp2 := pre ++ [.inr (.inr (.inr (11, [.null, .null, .null]))), .inl (0, 10, (fun _ => 0))]) (b2 := (12, 115)) (q := 9) (by decide) rfl rfl rfl (lA hp rfl rfl) (aA rfl) rfl rfl ?_
  refine ar_putf (hp2 := pre ++ [.inr (.inr (.inr (11, [.ref 3, .null, .null]))), .inl (0, 10, (fun _ => 0))]) (q := 12) rfl rfl (gA (j := 0) hp rfl rfl) rfl (sA (j := 0) hp rfl rfl) rfl ?_
  refine ar_aload_n (j := 0) (q := 13) rfl rfl rfl rfl ?_
  refine ar_iconst (v := 5) (q := 14) rfl rfl rfl ?_
  refine ar_newa (t := 0) (m := 5) (n := 4) (hp2 := pre ++ [.inr (.inr (.inr (11, [.ref 3, .null, .null]))), .inl (0, 10, (fun _ => 0)), .inl (0, 5, (fun _ => 0))]) (b2 := (11, 110)) (q := 16) (by decide) rfl rfl rfl (lA hp rfl rfl) (aA rfl) rfl rfl ?_
  refine ar_putf (hp2 := pre ++ [.inr (.inr (.inr (11, [.ref 3, .ref 4, .null]))), .inl (0, 10, (fun _ => 0)), .inl (0, 5, (fun _ => 0))]) (q := 19) rfl rfl (gA (j := 0) hp rfl rfl) rfl (sA (j := 0) hp rfl rfl) rfl ?_
  refine ar_aload_n (j := 0) (q := 20) rfl rfl rfl rfl ?_
  refine ar_bipush (v := 10) (q := 22) rfl rfl rfl ?_
  refine ar_bipush (v := 10) (q := 24) rfl rfl rfl ?_
  refine ar_mna (m := 10) (j := 10) (n := 5) (hp2 := pre ++ [.inr (.inr (.inr (11, [.ref 3, .ref 4, .null]))), .inl (0, 10, (fun _ => 0)), .inl (0, 5, (fun _ => 0)), .inr (.inr (.inl (10, fun i => some (6 + i)))), .inl (0, 10, (fun _ => 0)), .inl (0, 10, (fun _ => 0)), .inl (0, 10, (fun _ => 0)), .inl (0, 10, (fun _ => 0)), .inl (0, 10, (fun _ => 0)), .inl (0, 10, (fun _ => 0)), .inl (0, 10, (fun _ => 0)), .inl (0, 10, (fun _ => 0)), .inl (0, 10, (fun _ => 0)), .inl (0, 10, (fun _ => 0))]) (b2 := (0, 0)) (q := 28) rfl rfl rfl rfl (lA hp rfl rfl) (aA rfl) rfl rfl ?_
  refine ar_putf (hp2 := pre ++ [.inr (.inr (.inr (11, [.ref 3, .ref 4, .ref 5]))), .inl (0, 10, (fun _ => 0)), .inl (0, 5, (fun _ => 0)), .inr (.inr (.inl (10, fun i => some (6 + i)))), .inl (0, 10, (fun _ => 0)), .inl (0, 10, (fun _ => 0)), .inl (0, 10, (fun _ => 0)), .inl (0, 10, (fun _ => 0)), .inl (0, 10, (fun _ => 0)), .inl (0, 10, (fun _ => 0)), .inl (0, 10, (fun _ => 0)), .inl (0, 10, (fun _ => 0)), .inl (0, 10, (fun _ => 0)), .inl (0, 10, (fun _ => 0))]) (q := 31) rfl rfl (gA (j := 0) hp rfl rfl) rfl (sA (j := 0) hp rfl rfl) rfl ?_
  refine ar_aload_n (j := 0) (q := 32) rfl rfl rfl rfl ?_
  refine ar_getf (v := .ref 4) (q := 35) rfl rfl (gA (j := 0) hp rfl rfl) rfl rfl ?_
  refine ar_sipush (v := 180) (q := 38) rfl rfl rfl ?_
  refine ar_invs (as := [.ref 4, .int 180]) (rest := []) (b2 := (0, 0)) (b3 := (0, 0)) (q := 41) rfl rfl rfl rfl rfl rfl rfl rfl rfl ?_
  refine ok_fill (by omega) (gA (j := 2) hp rfl rfl) (by decide) ?_
  dsimp only
  rw [sA (j := 2) (own2 := [.inr (.inr (.inr (11, [.ref 3, .ref 4, .ref 5]))), .inl (0, 10, (fun _ => 0)), .inl (0, 5, (am_fi (fun _ => 0) 180 5)), .inr (.inr (.inl (10, fun i => some (6 + i)))), .inl (0, 10, (fun _ => 0)), .inl (0, 10, (fun _ => 0)), .inl (0, 10, (fun _ => 0)), .inl (0, 10, (fun _ => 0)), .inl (0, 10, (fun _ => 0)), .inl (0, 10, (fun _ => 0)), .inl (0, 10, (fun _ => 0)), .inl (0, 10, (fun _ => 0)), .inl (0, 10, (fun _ => 0)), .inl (0, 10, (fun _ => 0))]) hp rfl rfl]
  show am_Run am_X0 (am_meth d) 145 R 41 [some (.ref 2), none] [] (pre ++ [.inr (.inr (.inr (11, [.ref 3, .ref 4, .ref 5]))), .inl (0, 10, (fun _ => 0)), .inl (0, 5, (am_fi (fun _ => 0) 180 5)), .inr (.inr (.inl (10, fun i => some (6 + i)))), .inl (0, 10, (fun _ => 0)), .inl (0, 10, (fun _ => 0)), .inl (0, 10, (fun _ => 0)), .inl (0, 10, (fun _ => 0)), .inl (0, 10, (fun _ => 0)), .inl (0, 10, (fun _ => 0)), .inl (0, 10, (fun _ => 0)), .inl (0, 10, (fun _ => 0)), .inl (0, 10, (fun _ => 0)), .inl (0, 10, (fun _ => 0))], 0, 0)
  refine ar_iconst (v := 0) (q := 42) rfl rfl rfl ?_
  refine ar_istore_n (j := 1) (ls' := [some (.ref 2), some (.int 0)]) (q := 43) rfl rfl rfl rfl rfl ?_
  refine ar_iload_n (j := 1) (q := 44) rfl rfl rfl rfl ?_
  refine ar_bipush (v := 10) (q := 46) rfl rfl rfl ?_
  refine ar_br (t := 75) (q := 49) am_c_ge rfl rfl rfl (fun c => absurd c (by decide)) (fun _ => ?_)
  refine ar_aload_n (j := 0) (q := 50) rfl rfl rfl rfl ?_
  refine ar_getf (v := .ref 5) (q := 53) rfl rfl (gA (j := 0) hp rfl rfl) rfl rfl ?_
  refine ar_iload_n (j := 1) (q := 54) rfl rfl rfl rfl ?_
  refine ar_aald (c2 := 6) (q := 55) rfl (gA (j := 3) hp rfl rfl) rfl rfl rfl ?_
  refine ar_bipush (v := 24) (q := 57) rfl rfl rfl ?_
  refine ar_invs (as := [.ref 6, .int 24]) (rest := []) (b2 := (0, 0)) (b3 := (0, 0)) (q := 60) rfl rfl rfl rfl rfl rfl rfl rfl rfl ?_
  refine ok_fill (by omega) (gA (j := 4) hp rfl rfl) (by decide) ?_
  dsimp only
  rw [sA (j := 4) (own2 := [.inr (.inr (.inr (11, [.ref 3, .ref 4, .ref 5]))), .inl (0, 10, (fun _ => 0)), .inl (0, 5, (am_fi (fun _ => 0) 180 5)), .inr (.inr (.inl (10, fun i => some (6 + i)))), .inl (0, 10, (am_fi (fun _ => 0) 24 10)), .inl (0, 10, (fun _ => 0)), .inl (0, 10, (fun _ => 0)), .inl (0, 10, (fun _ => 0)), .inl (0, 10, (fun _ => 0)), .inl (0, 10, (fun _ => 0)), .inl (0, 10, (fun _ => 0)), .inl (0, 10, (fun _ => 0)), .inl (0, 10, (fun _ => 0)), .inl (0, 10, (fun _ => 0))]) hp rfl rfl]
  show am_Run am_X0 (am_meth d) 145 R 60 [some (.ref 2), some (.int 0)] [] (pre ++ [.inr (.inr (.inr (11, [.ref 3, .ref 4, .ref 5]))), .inl (0, 10, (fun _ => 0)), .inl (0, 5, (am_fi (fun _ => 0) 180 5)), .inr (.inr (.inl (10, fun i => some (6 + i)))), .inl (0, 10, (am_fi (fun _ => 0) 24 10)), .inl (0, 10, (fun _ => 0)), .inl (0, 10, (fun _ => 0)), .inl (0, 10, (fun _ => 0)), .inl (0, 10, (fun _ => 0)), .inl (0, 10, (fun _ => 0)), .inl (0, 10, (fun _ => 0)), .inl (0, 10, (fun _ => 0)), .inl (0, 10, (fun _ => 0)), .inl (0, 10, (fun _ => 0))], 0, 0)
  refine ar_aload_n (j := 0) (q := 61) rfl rfl rfl rfl ?_
  refine ar_getf (v := .ref 5) (q := 64) rfl rfl (gA (j := 0) hp rfl rfl) rfl rfl ?_
  refine ar_iload_n (j := 1) (q := 65) rfl rfl rfl rfl ?_
  refine ar_aald (c2 := 6) (q := 66) rfl (gA (j := 3) hp rfl rfl) rfl rfl rfl ?_
  refine ar_iload_n (j := 1) (q := 67) rfl rfl rfl rfl ?_
  refine ar_iconst (v := 0) (q := 68) rfl rfl rfl ?_
  refine ar_iast (hp2 := pre ++ [.inr (.inr (.inr (11, [.ref 3, .ref 4, .ref 5]))), .inl (0, 10, (fun _ => 0)), .inl (0, 5, (am_fi (fun _ => 0) 180 5)), .inr (.inr (.inl (10, fun i => some (6 + i)))), .inl (0, 10, (upd (am_fi (fun _ => 0) 24 10) 0 0)), .inl (0, 10, (fun _ => 0)), .inl (0, 10, (fun _ => 0)), .inl (0, 10, (fun _ => 0)), .inl (0, 10, (fun _ => 0)), .inl (0, 10, (fun _ => 0)), .inl (0, 10, (fun _ => 0)), .inl (0, 10, (fun _ => 0)), .inl (0, 10, (fun _ => 0)), .inl (0, 10, (fun _ => 0))]) (q := 69) rfl (gA (j := 4) hp rfl rfl) rfl (sA (j := 4) hp rfl rfl) rfl ?_
  refine ar_iinc (v := 1) (ls' := [some (.ref 2), some (.int 1)]) (q := 72) rfl rfl rfl rfl rfl rfl ?_
  refine ar_goto (t := 43) rfl rfl ?_
  refine ar_iload_n (j := 1) (q := 44) rfl rfl rfl rfl ?_
  refine ar_bipush (v := 10) (q := 46) rfl rfl rfl ?_
  refine ar_br (t := 75) (q := 49) am_c_ge rfl rfl rfl (fun c => absurd c (by decide)) (fun _ => ?_)
  refine ar_aload_n (j := 0) (q := 50) rfl rfl rfl rfl ?_
  refine ar_getf (v := .ref 5) (q := 53) rfl rfl (gA (j := 0) hp rfl rfl) rfl rfl ?_
  refine ar_iload_n (j := 1) (q := 54) rfl rfl rfl rfl ?_
  refine ar_aald (c2 := 7) (q := 55) rfl (gA (j := 3) hp rfl rfl) rfl rfl rfl ?_
  refine ar_bipush (v := 24) (q := 57) rfl rfl rfl ?_
  refine ar_invs (as := [.ref 7, .int 24]) (rest := []) (b2 := (0, 0)) (b3 := (0, 0)) (q := 60) rfl rfl rfl rfl rfl rfl rfl rfl rfl ?_
  refine ok_fill (by omega) (gA (j := 5) hp rfl rfl) (by decide) ?_
  dsimp only
  rw [sA (j := 5) (own2 := [.inr (.inr (.inr (11, [.ref 3, .ref 4, .ref 5]))), .inl (0, 10, (fun _ => 0)), .inl (0, 5, (am_fi (fun _ => 0) 180 5)), .inr (.inr (.inl (10, fun i => some (6 + i)))), .inl (0, 10, (upd (am_fi (fun _ => 0) 24 10) 0 0)), .inl (0, 10, (am_fi (fun _ => 0) 24 10)), .inl (0, 10, (fun _ => 0)), .inl (0, 10, (fun _ => 0)), .inl (0, 10, (fun _ => 0)), .inl (0, 10, (fun _ => 0)), .inl (0, 10, (fun _ => 0)), .inl (0, 10, (fun _ => 0)), .inl (0, 10, (fun _ => 0)), .inl (0, 10, (fun _ => 0))]) hp rfl rfl]
  show am_Run am_X0 (am_meth d) 145 R 60 [some (.ref 2), some (.int 1)] [] (pre ++ [.inr (.inr (.inr (11, [.ref 3, .ref 4, .ref 5]))), .inl (0, 10, (fun _ => 0)), .inl (0, 5, (am_fi (fun _ => 0) 180 5)), .inr (.inr (.inl (10, fun i => some (6 + i)))), .inl (0, 10, (upd (am_fi (fun _ => 0) 24 10) 0 0)), .inl (0, 10, (am_fi (fun _ => 0) 24 10)), .inl (0, 10, (fun _ => 0)), .inl (0, 10, (fun _ => 0)), .inl (0, 10, (fun _ => 0)), .inl (0, 10, (fun _ => 0)), .inl (0, 10, (fun _ => 0)), .inl (0, 10, (fun _ => 0)), .inl (0, 10, (fun _ => 0)), .inl (0, 10, (fun _ => 0))], 0, 0)
  refine ar_aload_n (j := 0) (q := 61) rfl rfl rfl rfl ?_
  refine ar_getf (v := .ref 5) (q := 64) rfl rfl (gA (j := 0) hp rfl rfl) rfl rfl ?_
  refine ar_iload_n (j := 1) (q := 65) rfl rfl rfl rfl ?_
  refine ar_aald (c2 := 7) (q := 66) rfl (gA (j := 3) hp rfl rfl) rfl rfl rfl ?_
  refine ar_iload_n (j := 1) (q := 67) rfl rfl rfl rfl ?_
  refine ar_iconst (v := 0) (q := 68) rfl rfl rfl ?_
  refine ar_iast (hp2 := pre ++ [.inr (.inr (.inr (11, [.ref 3, .ref 4, .ref 5]))), .inl (0, 10, (fun _ => 0)), .inl (0, 5, (am_fi (fun _ => 0) 180 5)), .inr (.inr (.inl (10, fun i => some (6 + i)))), .inl (0, 10, (upd (am_fi (fun _ => 0) 24 10) 0 0)), .inl (0, 10, (upd (am_fi (fun _ => 0) 24 10) 1 0)), .inl (0, 10, (fun _ => 0)), .inl (0, 10, (fun _ => 0)), .inl (0, 10, (fun _ => 0)), .inl (0, 10, (fun _ => 0)), .inl (0, 10, (fun _ => 0)), .inl (0, 10, (fun _ => 0)), .inl (0, 10, (fun _ => 0)), .inl (0, 10, (fun _ => 0))]) (q := 69) rfl (gA (j := 5) hp rfl rfl) rfl (sA (j := 5) hp rfl rfl) rfl ?_
  refine ar_iinc (v := 2) (ls' := [some (.ref 2), some (.int 2)]) (q := 72) rfl rfl rfl rfl rfl rfl ?_
  refine ar_goto (t := 43) rfl rfl ?_
  refine ar_iload_n (j := 1) (q := 44) rfl rfl rfl rfl ?_
  refine ar_bipush (v := 10) (q := 46) rfl rfl rfl ?_
  refine ar_br (t := 75) (q := 49) am_c_ge rfl rfl rfl (fun c => absurd c (by decide)) (fun _ => ?_)
  refine ar_aload_n (j := 0) (q := 50) rfl rfl rfl rfl ?_
  refine ar_getf (v := .ref 5) (q := 53) rfl rfl (gA (j := 0) hp rfl rfl) rfl rfl ?_
  refine ar_iload_n (j := 1) (q := 54) rfl rfl rfl rfl ?_
  refine ar_aald (c2 := 8) (q := 55) rfl (gA (j := 3) hp rfl rfl) rfl rfl rfl ?_
  refine ar_bipush (v := 24) (q := 57) rfl rfl rfl ?_
  refine ar_invs (as := [.ref 8, .int 24]) (rest := []) (b2 := (0, 0)) (b3 := (0, 0)) (q := 60) rfl rfl rfl rfl rfl rfl rfl rfl rfl ?_
  refine ok_fill (by omega) (gA (j := 6) hp rfl rfl) (by decide) ?_
  dsimp only
  rw [sA (j := 6) (own2 := [.inr (.inr (.inr (11, [.ref 3, .ref 4, .ref 5]))), .inl (0, 10, (fun _ => 0)), .inl (0, 5, (am_fi (fun _ => 0) 180 5)), .inr (.inr (.inl (10, fun i => some (6 + i)))), .inl (0, 10, (upd (am_fi (fun _ => 0) 24 10) 0 0)), .inl (0, 10, (upd (am_fi (fun _ => 0) 24 10) 1 0)), .inl (0, 10, (am_fi (fun _ => 0) 24 10)), .inl (0, 10, (fun _ => 0)), .inl (0, 10, (fun _ => 0)), .inl (0, 10, (fun _ => 0)), .inl (0, 10, (fun _ => 0)), .inl (0, 10, (fun _ => 0)), .inl (0, 10, (fun _ => 0)), .inl (0, 10, (fun _ => 0))]) hp rfl rfl]
  show am_Run am_X0 (am_meth d) 145 R 60 [some (.ref 2), some (.int 2)] [] (pre ++ [.inr (.inr (.inr (11, [.ref 3, .ref 4, .ref 5]))), .inl (0, 10, (fun _ => 0)), .inl (0, 5, (am_fi (fun _ => 0) 180 5)), .inr (.inr (.inl (10, fun i => some (6 + i)))), .inl (0, 10, (upd (am_fi (fun _ => 0) 24 10) 0 0)), .inl (0, 10, (upd (am_fi (fun _ => 0) 24 10) 1 0)), .inl (0, 10, (am_fi (fun _ => 0) 24 10)), .inl (0, 10, (fun _ => 0)), .inl (0, 10, (fun _ => 0)), .inl (0, 10, (fun _ => 0)), .inl (0, 10, (fun _ => 0)), .inl (0, 10, (fun _ => 0)), .inl (0, 10, (fun _ => 0)), .inl (0, 10, (fun _ => 0))], 0, 0)
  refine ar_aload_n (j := 0) (q := 61) rfl rfl rfl rfl ?_
  refine ar_getf (v := .ref 5) (q := 64) rfl rfl (gA (j := 0) hp rfl rfl) rfl rfl ?_
  refine ar_iload_n (j := 1) (q := 65) rfl rfl rfl rfl ?_
  refine ar_aald (c2 := 8) (q := 66) rfl (gA (j := 3) hp rfl rfl) rfl rfl rfl ?_
  refine ar_iload_n (j := 1) (q := 67) rfl rfl rfl rfl ?_
  refine ar_iconst (v := 0) (q := 68) rfl rfl rfl ?_
  refine ar_iast (hp2 := pre ++ [.inr (.inr (.inr (11, [.ref 3, .ref 4, .ref 5]))), .inl (0, 10, (fun _ => 0)), .inl (0, 5, (am_fi (fun _ => 0) 180 5)), .inr (.inr (.inl (10, fun i => some (6 + i)))), .inl (0, 10, (upd (am_fi (fun _ => 0) 24 10) 0 0)), .inl (0, 10, (upd (am_fi (fun _ => 0) 24 10) 1 0)), .inl (0, 10, (upd (am_fi (fun _ => 0) 24 10) 2 0)), .inl (0, 10, (fun _ => 0)), .inl (0, 10, (fun _ => 0)), .inl (0, 10, (fun _ => 0)), .inl (0, 10, (fun _ => 0)), .inl (0, 10, (fun _ => 0)), .inl (0, 10, (fun _ => 0)), .inl (0, 10, (fun _ => 0))]) (q := 69) rfl (gA (j := 6) hp rfl rfl) rfl (sA (j := 6) hp rfl rfl) rfl ?_
  refine ar_iinc (v := 3) (ls' := [some (.ref 2), some (.int 3)]) (q := 72) rfl rfl rfl rfl rfl rfl ?_
  refine ar_goto (t := 43) rfl rfl ?_
  refine ar_iload_n (j := 1) (q := 44) rfl rfl rfl rfl ?_
  refine ar_bipush (v := 10) (q := 46) rfl rfl rfl ?_
  refine ar_br (t := 75) (q := 49) am_c_ge rfl rfl rfl (fun c => absurd c (by decide)) (fun _ => ?_)
  refine ar_aload_n (j := 0) (q := 50) rfl rfl rfl rfl ?_
  refine ar_getf (v := .ref 5) (q := 53) rfl rfl (gA (j := 0) hp rfl rfl) rfl rfl ?_
  refine ar_iload_n (j := 1) (q := 54) rfl rfl rfl rfl ?_
  refine ar_aald (c2 := 9) (q := 55) rfl (gA (j := 3) hp rfl rfl) rfl rfl rfl ?_
  refine ar_bipush (v := 24) (q := 57) rfl rfl rfl ?_
  refine ar_invs (as := [.ref 9, .int 24]) (rest := []) (b2 := (0, 0)) (b3 := (0, 0)) (q := 60) rfl rfl rfl rfl rfl rfl rfl rfl rfl ?_
  refine ok_fill (by omega) (gA (j := 7) hp rfl rfl) (by decide) ?_
  dsimp only
  rw [sA (j := 7) (own2 := [.inr (.inr (.inr (11, [.ref 3, .ref 4, .ref 5]))), .inl (0, 10, (fun _ => 0)), .inl (0, 5, (am_fi (fun _ => 0) 180 5)), .inr (.inr (.inl (10, fun i => some (6 + i)))), .inl (0, 10, (upd (am_fi (fun _ => 0) 24 10) 0 0)), .inl (0, 10, (upd (am_fi (fun _ => 0) 24 10) 1 0)), .inl (0, 10, (upd (am_fi (fun _ => 0) 24 10) 2 0)), .inl (0, 10, (am_fi (fun _ => 0) 24 10)), .inl (0, 10, (fun _ => 0)), .inl (0, 10, (fun _ => 0)), .inl (0, 10, (fun _ => 0)), .inl (0, 10, (fun _ => 0)), .inl (0, 10, (fun _ => 0)), .inl (0, 10, (fun _ => 0))]) hp rfl rfl]
  show am_Run am_X0 (am_meth d) 145 R 60 [some (.ref 2), some (.int 3)] [] (pre ++ [.inr (.inr (.inr (11, [.ref 3, .ref 4, .ref 5]))), .inl (0, 10, (fun _ => 0)), .inl (0, 5, (am_fi (fun _ => 0) 180 5)), .inr (.inr (.inl (10, fun i => some (6 + i)))), .inl (0, 10, (upd (am_fi (fun _ => 0) 24 10) 0 0)), .inl (0, 10, (upd (am_fi (fun _ => 0) 24 10) 1 0)), .inl (0, 10, (upd (am_fi (fun _ => 0) 24 10) 2 0)), .inl (0, 10, (am_fi (fun _ => 0) 24 10)), .inl (0, 10, (fun _ => 0)), .inl (0, 10, (fun _ => 0)), .inl (0, 10, (fun _ => 0)), .inl (0, 10, (fun _ => 0)), .inl (0, 10, (fun _ => 0)), .inl (0, 10, (fun _ => 0))], 0, 0)
  refine ar_aload_n (j := 0) (q := 61) rfl rfl rfl rfl ?_
  refine ar_getf (v := .ref 5) (q := 64) rfl rfl (gA (j := 0) hp rfl rfl) rfl rfl ?_
  refine ar_iload_n (j := 1) (q := 65) rfl rfl rfl rfl ?_
  refine ar_aald (c2 := 9) (q := 66) rfl (gA (j := 3) hp rfl rfl) rfl rfl rfl ?_
  refine ar_iload_n (j := 1) (q := 67) rfl rfl rfl rfl ?_
  refine ar_iconst (v := 0) (q := 68) rfl rfl rfl ?_
  refine ar_iast (hp2 := pre ++ [.inr (.inr (.inr (11, [.ref 3, .ref 4, .ref 5]))), .inl (0, 10, (fun _ => 0)), .inl (0, 5, (am_fi (fun _ => 0) 180 5)), .inr (.inr (.inl (10, fun i => some (6 + i)))), .inl (0, 10, (upd (am_fi (fun _ => 0) 24 10) 0 0)), .inl (0, 10, (upd (am_fi (fun _ => 0) 24 10) 1 0)), .inl (0, 10, (upd (am_fi (fun _ => 0) 24 10) 2 0)), .inl (0, 10, (upd (am_fi (fun _ => 0) 24 10) 3 0)), .inl (0, 10, (fun _ => 0)), .inl (0, 10, (fun _ => 0)), .inl (0, 10, (fun _ => 0)), .inl (0, 10, (fun _ => 0)), .inl (0, 10, (fun _ => 0)), .inl (0, 10, (fun _ => 0))]) (q := 69) rfl (gA (j := 7) hp rfl rfl) rfl (sA (j := 7) hp rfl rfl) rfl ?_
  refine ar_iinc (v := 4) (ls' := [some (.ref 2), some (.int 4)]) (q := 72) rfl rfl rfl rfl rfl rfl ?_
  refine ar_goto (t := 43) rfl rfl ?_
  refine ar_iload_n (j := 1) (q := 44) rfl rfl rfl rfl ?_
  refine ar_bipush (v := 10) (q := 46) rfl rfl rfl ?_
  refine ar_br (t := 75) (q := 49) am_c_ge rfl rfl rfl (fun c => absurd c (by decide)) (fun _ => ?_)
  refine ar_aload_n (j := 0) (q := 50) rfl rfl rfl rfl ?_
  refine ar_getf (v := .ref 5) (q := 53) rfl rfl (gA (j := 0) hp rfl rfl) rfl rfl ?_
  refine ar_iload_n (j := 1) (q := 54) rfl rfl rfl rfl ?_
  refine ar_aald (c2 := 10) (q := 55) rfl (gA (j := 3) hp rfl rfl) rfl rfl rfl ?_
  refine ar_bipush (v := 24) (q := 57) rfl rfl rfl ?_
  refine ar_invs (as := [.ref 10, .int 24]) (rest := []) (b2 := (0, 0)) (b3 := (0, 0)) (q := 60) rfl rfl rfl rfl rfl rfl rfl rfl rfl ?_
  refine ok_fill (by omega) (gA (j := 8) hp rfl rfl) (by decide) ?_
  dsimp only
  rw [sA (j := 8) (own2 := [.inr (.inr (.inr (11, [.ref 3, .ref 4, .ref 5]))), .inl (0, 10, (fun _ => 0)), .inl (0, 5, (am_fi (fun _ => 0) 180 5)), .inr (.inr (.inl (10, fun i => some (6 + i)))), .inl (0, 10, (upd (am_fi (fun _ => 0) 24 10) 0 0)), .inl (0, 10, (upd (am_fi (fun _ => 0) 24 10) 1 0)), .inl (0, 10, (upd (am_fi (fun _ => 0) 24 10) 2 0)), .inl (0, 10, (upd (am_fi (fun _ => 0) 24 10) 3 0)), .inl (0, 10, (am_fi (fun _ => 0) 24 10)), .inl (0, 10, (fun _ => 0)), .inl (0, 10, (fun _ => 0)), .inl (0, 10, (fun _ => 0)), .inl (0, 10, (fun _ => 0)), .inl (0, 10, (fun _ => 0))]) hp rfl rfl]
  show am_Run am_X0 (am_meth d) 145 R 60 [some (.ref 2), some (.int 4)] [] (pre ++ [.inr (.inr (.inr (11, [.ref 3, .ref 4, .ref 5]))), .inl (0, 10, (fun _ => 0)), .inl (0, 5, (am_fi (fun _ => 0) 180 5)), .inr (.inr (.inl (10, fun i => some (6 + i)))), .inl (0, 10, (upd (am_fi (fun _ => 0) 24 10) 0 0)), .inl (0, 10, (upd (am_fi (fun _ => 0) 24 10) 1 0)), .inl (0, 10, (upd (am_fi (fun _ => 0) 24 10) 2 0)), .inl (0, 10, (upd (am_fi (fun _ => 0) 24 10) 3 0)), .inl (0, 10, (am_fi (fun _ => 0) 24 10)), .inl (0, 10, (fun _ => 0)), .inl (0, 10, (fun _ => 0)), .inl (0, 10, (fun _ => 0)), .inl (0, 10, (fun _ => 0)), .inl (0, 10, (fun _ => 0))], 0, 0)
  refine ar_aload_n (j := 0) (q := 61) rfl rfl rfl rfl ?_
  refine ar_getf (v := .ref 5) (q := 64) rfl rfl (gA (j := 0) hp rfl rfl) rfl rfl ?_
  refine ar_iload_n (j := 1) (q := 65) rfl rfl rfl rfl ?_
  refine ar_aald (c2 := 10) (q := 66) rfl (gA (j := 3) hp rfl rfl) rfl rfl rfl ?_
  refine ar_iload_n (j := 1) (q := 67) rfl rfl rfl rfl ?_
  refine ar_iconst (v := 0) (q := 68) rfl rfl rfl ?_
  refine ar_iast (hp2 := pre ++ [.inr (.inr (.inr (11, [.ref 3, .ref 4, .ref 5]))), .inl (0, 10, (fun _ => 0)), .inl (0, 5, (am_fi (fun _ => 0) 180 5)), .inr (.inr (.inl (10, fun i => some (6 + i)))), .inl (0, 10, (upd (am_fi (fun _ => 0) 24 10) 0 0)), .inl (0, 10, (upd (am_fi (fun _ => 0) 24 10) 1 0)), .inl (0, 10, (upd (am_fi (fun _ => 0) 24 10) 2 0)), .inl (0, 10, (upd (am_fi (fun _ => 0) 24 10) 3 0)), .inl (0, 10, (upd (am_fi (fun _ => 0) 24 10) 4 0)), .inl (0, 10, (fun _ => 0)), .inl (0, 10, (fun _ => 0)), .inl (0, 10, (fun _ => 0)), .inl (0, 10, (fun _ => 0)), .inl (0, 10, (fun _ => 0))]) (q := 69) rfl (gA (j := 8) hp rfl rfl) rfl (sA (j := 8) hp rfl rfl) rfl ?_
  refine ar_iinc (v := 5) (ls' := [some (.ref 2), some (.int 5)]) (q := 72) rfl rfl rfl rfl rfl rfl ?_
  refine ar_goto (t := 43) rfl rfl ?_
  refine ar_iload_n (j := 1) (q := 44) rfl rfl rfl rfl ?_
  refine ar_bipush (v := 10) (q := 46) rfl rfl rfl ?_
  refine ar_br (t := 75) (q := 49) am_c_ge rfl rfl rfl (fun c => absurd c (by decide)) (fun _ => ?_)
  refine ar_aload_n (j := 0) (q := 50) rfl rfl rfl rfl ?_
  refine ar_getf (v := .ref 5) (q := 53) rfl rfl (gA (j := 0) hp rfl rfl) rfl rfl ?_
  refine ar_iload_n (j := 1) (q := 54) rfl rfl rfl rfl ?_
  refine ar_aald (c2 := 11) (q := 55) rfl (gA (j := 3) hp rfl rfl) rfl rfl rfl ?_
  refine ar_bipush (v := 24) (q := 57) rfl rfl rfl ?_
  refine ar_invs (as := [.ref 11, .int 24]) (rest := []) (b2 := (0, 0)) (b3 := (0, 0)) (q := 60) rfl rfl rfl rfl rfl rfl rfl rfl rfl ?_
  refine ok_fill (by omega) (gA (j := 9) hp rfl rfl) (by decide) ?_
  dsimp only
  rw [sA (j := 9) (own2 := [.inr (.inr (.inr (11, [.ref 3, .ref 4, .ref 5]))), .inl (0, 10, (fun _ => 0)), .inl (0, 5, (am_fi (fun _ => 0) 180 5)), .inr (.inr (.inl (10, fun i => some (6 + i)))), .inl (0, 10, (upd (am_fi (fun _ => 0) 24 10) 0 0)), .inl (0, 10, (upd (am_fi (fun _ => 0) 24 10) 1 0)), .inl (0, 10, (upd (am_fi (fun _ => 0) 24 10) 2 0)), .inl (0, 10, (upd (am_fi (fun _ => 0) 24 10) 3 0)), .inl (0, 10, (upd (am_fi (fun _ => 0) 24 10) 4 0)), .inl (0, 10, (am_fi (fun _ => 0) 24 10)), .inl (0, 10, (fun _ => 0)), .inl (0, 10, (fun _ => 0)), .inl (0, 10, (fun _ => 0)), .inl (0, 10, (fun _ => 0))]) hp rfl rfl]
  show am_Run am_X0 (am_meth d) 145 R 60 [some (.ref 2), some (.int 5)] [] (pre ++ [.inr (.inr (.inr (11, [.ref 3, .ref 4, .ref 5]))), .inl (0, 10, (fun _ => 0)), .inl (0, 5, (am_fi (fun _ => 0) 180 5)), .inr (.inr (.inl (10, fun i => some (6 + i)))), .inl (0, 10, (upd (am_fi (fun _ => 0) 24 10) 0 0)), .inl (0, 10, (upd (am_fi (fun _ => 0) 24 10) 1 0)), .inl (0, 10, (upd (am_fi (fun _ => 0) 24 10) 2 0)), .inl (0, 10, (upd (am_fi (fun _ => 0) 24 10) 3 0)), .inl (0, 10, (upd (am_fi (fun _ => 0) 24 10) 4 0)), .inl (0, 10, (am_fi (fun _ => 0) 24 10)), .inl (0, 10, (fun _ => 0)), .inl (0, 10, (fun _ => 0)), .inl (0, 10, (fun _ => 0)), .inl (0, 10, (fun _ => 0))], 0, 0)
  refine ar_aload_n (j := 0) (q := 61) rfl rfl rfl rfl ?_
  refine ar_getf (v := .ref 5) (q := 64) rfl rfl (gA (j := 0) hp rfl rfl) rfl rfl ?_
  refine ar_iload_n (j := 1) (q := 65) rfl rfl rfl rfl ?_
  refine ar_aald (c2 := 11) (q := 66) rfl (gA (j := 3) hp rfl rfl) rfl rfl rfl ?_
  refine ar_iload_n (j := 1) (q := 67) rfl rfl rfl rfl ?_
  refine ar_iconst (v := 0) (q := 68) rfl rfl rfl ?_
  refine ar_iast (hp2 := pre ++ [.inr (.inr (.inr (11, [.ref 3, .ref 4, .ref 5]))), .inl (0, 10, (fun _ => 0)), .inl (0, 5, (am_fi (fun _ => 0) 180 5)), .inr (.inr (.inl (10, fun i => some (6 + i)))), .inl (0, 10, (upd (am_fi (fun _ => 0) 24 10) 0 0)), .inl (0, 10, (upd (am_fi (fun _ => 0) 24 10) 1 0)), .inl (0, 10, (upd (am_fi (fun _ => 0) 24 10) 2 0)), .inl (0, 10, (upd (am_fi (fun _ => 0) 24 10) 3 0)), .inl (0, 10, (upd (am_fi (fun _ => 0) 24 10) 4 0)), .inl (0, 10, (upd (am_fi (fun _ => 0) 24 10) 5 0)), .inl (0, 10, (fun _ => 0)), .inl (0, 10, (fun _ => 0)), .inl (0, 10, (fun _ => 0)), .inl (0, 10, (fun _ => 0))]) (q := 69) rfl (gA (j := 9) hp rfl rfl) rfl (sA (j := 9) hp rfl rfl) rfl ?_
  refine ar_iinc (v := 6) (ls' := [some (.ref 2), some (.int 6)]) (q := 72) rfl rfl rfl rfl rfl rfl ?_
  refine ar_goto (t := 43) rfl rfl ?_
  refine ar_iload_n (j := 1) (q := 44) rfl rfl rfl rfl ?_
  refine ar_bipush (v := 10) (q := 46) rfl rfl rfl ?_
  refine ar_br (t := 75) (q := 49) am_c_ge rfl rfl rfl (fun c => absurd c (by decide)) (fun _ => ?_)
  refine ar_aload_n (j := 0) (q := 50) rfl rfl rfl rfl ?_
  refine ar_getf (v := .ref 5) (q := 53) rfl rfl (gA (j := 0) hp rfl rfl) rfl rfl ?_
  refine ar_iload_n (j := 1) (q := 54) rfl rfl rfl rfl ?_
  refine ar_aald (c2 := 12) (q := 55) rfl (gA (j := 3) hp rfl rfl) rfl rfl rfl ?_
  refine ar_bipush (v := 24) (q := 57) rfl rfl rfl ?_
  refine ar_invs (as := [.ref 12, .int 24]) (rest := []) (b2 := (0, 0)) (b3 := (0, 0)) (q := 60) rfl rfl rfl rfl rfl rfl rfl rfl rfl ?_
  refine ok_fill (by omega) (gA (j := 10) hp rfl rfl) (by decide) ?_
  dsimp only
  rw [sA (j := 10) (own2 := [.inr (.inr (.inr (11, [.ref 3, .ref 4, .ref 5]))), .inl (0, 10, (fun _ => 0)), .inl (0, 5, (am_fi (fun _ => 0) 180 5)), .inr (.inr (.inl (10, fun i => some (6 + i)))), .inl (0, 10, (upd (am_fi (fun _ => 0) 24 10) 0 0)), .inl (0, 10, (upd (am_fi (fun _ => 0) 24 10) 1 0)), .inl (0, 10, (upd (am_fi (fun _ => 0) 24 10) 2 0)), .inl (0, 10, (upd (am_fi (fun _ => 0) 24 10) 3 0)), .inl (0, 10, (upd (am_fi (fun _ => 0) 24 10) 4 0)), .inl (0, 10, (upd (am_fi (fun _ => 0) 24 10) 5 0)), .inl (0, 10, (am_fi (fun _ => 0) 24 10)), .inl (0, 10, (fun _ => 0)), .inl (0, 10, (fun _ => 0)), .inl (0, 10, (fun _ => 0))]) hp rfl rfl]
  show am_Run am_X0 (am_meth d) 145 R 60 [some (.ref 2), some (.int 6)] [] (pre ++ [.inr (.inr (.inr (11, [.ref 3, .ref 4, .ref 5]))), .inl (0, 10, (fun _ => 0)), .inl (0, 5, (am_fi (fun _ => 0) 180 5)), .inr (.inr (.inl (10, fun i => some (6 + i)))), .inl (0, 10, (upd (am_fi (fun _ => 0) 24 10) 0 0)), .inl (0, 10, (upd (am_fi (fun _ => 0) 24 10) 1 0)), .inl (0, 10, (upd (am_fi (fun _ => 0) 24 10) 2 0)), .inl (0, 10, (upd (am_fi (fun _ => 0) 24 10) 3 0)), .inl (0, 10, (upd (am_fi (fun _ => 0) 24 10) 4 0)), .inl (0, 10, (upd (am_fi (fun _ => 0) 24 10) 5 0)), .inl (0, 10, (am_fi (fun _ => 0) 24 10)), .inl (0, 10, (fun _ => 0)), .inl (0, 10, (fun _ => 0)), .inl (0, 10, (fun _ => 0))], 0, 0)
  refine ar_aload_n (j := 0) (q := 61) rfl rfl rfl rfl ?_
  refine ar_getf (v := .ref 5) (q := 64) rfl rfl (gA (j := 0) hp rfl rfl) rfl rfl ?_
  refine ar_iload_n (j := 1) (q := 65) rfl rfl rfl rfl ?_
  refine ar_aald (c2 := 12) (q := 66) rfl (gA (j := 3) hp rfl rfl) rfl rfl rfl ?_
  refine ar_iload_n (j := 1) (q := 67) rfl rfl rfl rfl ?_
  refine ar_iconst (v := 0) (q := 68) rfl rfl rfl ?_
  refine ar_iast (hp2 := pre ++ [.inr (.inr (.inr (11, [.ref 3, .ref 4, .ref 5]))), .inl (0, 10, (fun _ => 0)), .inl (0, 5, (am_fi (fun _ => 0) 180 5)), .inr (.inr (.inl (10, fun i => some (6 + i)))), .inl (0, 10, (upd (am_fi (fun _ => 0) 24 10) 0 0)), .inl (0, 10, (upd (am_fi (fun _ => 0) 24 10) 1 0)), .inl (0, 10, (upd (am_fi (fun _ => 0) 24 10) 2 0)), .inl (0, 10, (upd (am_fi (fun _ => 0) 24 10) 3 0)), .inl (0, 10, (upd (am_fi (fun _ => 0) 24 10) 4 0)), .inl (0, 10, (upd (am_fi (fun _ => 0) 24 10) 5 0)), .inl (0, 10, (upd (am_fi (fun _ => 0) 24 10) 6 0)), .inl (0, 10, (fun _ => 0)), .inl (0, 10, (fun _ => 0)), .inl (0, 10, (fun _ => 0))]) (q := 69) rfl (gA (j := 10) hp rfl rfl) rfl (sA (j := 10) hp rfl rfl) rfl ?_
  refine ar_iinc (v := 7) (ls' := [some (.ref 2), some (.int 7)]) (q := 72) rfl rfl rfl rfl rfl rfl ?_
  refine ar_goto (t := 43) rfl rfl ?_
  refine ar_iload_n (j := 1) (q := 44) rfl rfl rfl rfl ?_
  refine ar_bipush (v := 10) (q := 46) rfl rfl rfl ?_
  refine ar_br (t := 75) (q := 49) am_c_ge rfl rfl rfl (fun c => absurd c (by decide)) (fun _ => ?_)
  refine ar_aload_n (j := 0) (q := 50) rfl rfl rfl rfl ?_
  refine ar_getf (v := .ref 5) (q := 53) rfl rfl (gA (j := 0) hp rfl rfl) rfl rfl ?_
  refine ar_iload_n (j := 1) (q := 54) rfl rfl rfl rfl ?_
  refine ar_aald (c2 := 13) (q := 55) rfl (gA (j := 3) hp rfl rfl) rfl rfl rfl ?_
  refine ar_bipush (v := 24) (q := 57) rfl rfl rfl ?_
  refine ar_invs (as := [.ref 13, .int 24]) (rest := []) (b2 := (0, 0)) (b3 := (0, 0)) (q := 60) rfl rfl rfl rfl rfl rfl rfl rfl rfl ?_
  refine ok_fill (by omega) (gA (j := 11) hp rfl rfl) (by decide) ?_
  dsimp only
  rw [sA (j := 11) (own2 := [.inr (.inr (.inr (11, [.ref 3, .ref 4, .ref 5]))), .inl (0, 10, (fun _ => 0)), .inl (0, 5, (am_fi (fun _ => 0) 180 5)), .inr (.inr (.inl (10, fun i => some (6 + i)))), .inl (0, 10, (upd (am_fi (fun _ => 0) 24 10) 0 0)), .inl (0, 10, (upd (am_fi (fun _ => 0) 24 10) 1 0)), .inl (0, 10, (upd (am_fi (fun _ => 0) 24 10) 2 0)), .inl (0, 10, (upd (am_fi (fun _ => 0) 24 10) 3 0)), .inl (0, 10, (upd (am_fi (fun _ => 0) 24 10) 4 0)), .inl (0, 10, (upd (am_fi (fun _ => 0) 24 10) 5 0)), .inl (0, 10, (upd (am_fi (fun _ => 0) 24 10) 6 0)), .inl (0, 10, (am_fi (fun _ => 0) 24 10)), .inl (0, 10, (fun _ => 0)), .inl (0, 10, (fun _ => 0))]) hp rfl rfl]
  show am_Run am_X0 (am_meth d) 145 R 60 [some (.ref 2), some (.int 7)] [] (pre ++ [.inr (.inr (.inr (11, [.ref 3, .ref 4, .ref 5]))), .inl (0, 10, (fun _ => 0)), .inl (0, 5, (am_fi (fun _ => 0) 180 5)), .inr (.inr (.inl (10, fun i => some (6 + i)))), .inl (0, 10, (upd (am_fi (fun _ => 0) 24 10) 0 0)), .inl (0, 10, (upd (am_fi (fun _ => 0) 24 10) 1 0)), .inl (0, 10, (upd (am_fi (fun _ => 0) 24 10) 2 0)), .inl (0, 10, (upd (am_fi (fun _ => 0) 24 10) 3 0)), .inl (0, 10, (upd (am_fi (fun _ => 0) 24 10) 4 0)), .inl (0, 10, (upd (am_fi (fun _ => 0) 24 10) 5 0)), .inl (0, 10, (upd (am_fi (fun _ => 0) 24 10) 6 0)), .inl (0, 10, (am_fi (fun _ => 0) 24 10)), .inl (0, 10, (fun _ => 0)), .inl (0, 10, (fun _ => 0))], 0, 0)
  refine ar_aload_n (j := 0) (q := 61) rfl rfl rfl rfl ?_
  refine ar_getf (v := .ref 5) (q := 64) rfl rfl (gA (j := 0) hp rfl rfl) rfl rfl ?_
  refine ar_iload_n (j := 1) (q := 65) rfl rfl rfl rfl ?_
  refine ar_aald (c2 := 13) (q := 66) rfl (gA (j := 3) hp rfl rfl) rfl rfl rfl ?_
  refine ar_iload_n (j := 1) (q := 67) rfl rfl rfl rfl ?_
  refine ar_iconst (v := 0) (q := 68) rfl rfl rfl ?_
  refine ar_iast (hp2 := pre ++ [.inr (.inr (.inr (11, [.ref 3, .ref 4, .ref 5]))), .inl (0, 10, (fun _ => 0)), .inl (0, 5, (am_fi (fun _ => 0) 180 5)), .inr (.inr (.inl (10, fun i => some (6 + i)))), .inl (0, 10, (upd (am_fi (fun _ => 0) 24 10) 0 0)), .inl (0, 10, (upd (am_fi (fun _ => 0) 24 10) 1 0)), .inl (0, 10, (upd (am_fi (fun _ => 0) 24 10) 2 0)), .inl (0, 10, (upd (am_fi (fun _ => 0) 24 10) 3 0)), .inl (0, 10, (upd (am_fi (fun _ => 0) 24 10) 4 0)), .inl (0, 10, (upd (am_fi (fun _ => 0) 24 10) 5 0)), .inl (0, 10, (upd (am_fi (fun _ => 0) 24 10) 6 0)), .inl (0, 10, (upd (am_fi (fun _ => 0) 24 10) 7 0)), .inl (0, 10, (fun _ => 0)), .inl (0, 10, (fun _ => 0))]) (q := 69) rfl (gA (j := 11) hp rfl rfl) rfl (sA (j := 11) hp rfl rfl) rfl ?_
  refine ar_iinc (v := 8) (ls' := [some (.ref 2), some (.int 8)]) (q := 72) rfl rfl rfl rfl rfl rfl ?_
  refine ar_goto (t := 43) rfl rfl ?_
  refine ar_iload_n (j := 1) (q := 44) rfl rfl rfl rfl ?_
  refine ar_bipush (v := 10) (q := 46) rfl rfl rfl ?_
  refine ar_br (t := 75) (q := 49) am_c_ge rfl rfl rfl (fun c => absurd c (by decide)) (fun _ => ?_)
  refine ar_aload_n (j := 0) (q := 50) rfl rfl rfl rfl ?_
  refine ar_getf (v := .ref 5) (q := 53) rfl rfl (gA (j := 0) hp rfl rfl) rfl rfl ?_
  refine ar_iload_n (j := 1) (q := 54) rfl rfl rfl rfl ?_
  refine ar_aald (c2 := 14) (q := 55) rfl (gA (j := 3) hp rfl rfl) rfl rfl rfl ?_
  refine ar_bipush (v := 24) (q := 57) rfl rfl rfl ?_
  refine ar_invs (as := [.ref 14, .int 24]) (rest := []) (b2 := (0, 0)) (b3 := (0, 0)) (q := 60) rfl rfl rfl rfl rfl rfl rfl rfl rfl ?_
  refine ok_fill (by omega) (gA (j := 12) hp rfl rfl) (by decide) ?_
  dsimp only
  rw [sA (j := 12) (own2 := [.inr (.inr (.inr (11, [.ref 3, .ref 4, .ref 5]))), .inl (0, 10, (fun _ => 0)), .inl (0, 5, (am_fi (fun _ => 0) 180 5)), .inr (.inr (.inl (10, fun i => some (6 + i)))), .inl (0, 10, (upd (am_fi (fun _ => 0) 24 10) 0 0)), .inl (0, 10, (upd (am_fi (fun _ => 0) 24 10) 1 0)), .inl (0, 10, (upd (am_fi (fun _ => 0) 24 10) 2 0)), .inl (0, 10, (upd (am_fi (fun _ => 0) 24 10) 3 0)), .inl (0, 10, (upd (am_fi (fun _ => 0) 24 10) 4 0)), .inl (0, 10, (upd (am_fi (fun _ => 0) 24 10) 5 0)), .inl (0, 10, (upd (am_fi (fun _ => 0) 24 10) 6 0)), .inl (0, 10, (upd (am_fi (fun _ => 0) 24 10) 7 0)), .inl (0, 10, (am_fi (fun _ => 0) 24 10)), .inl (0, 10, (fun _ => 0))]) hp rfl rfl]
  show am_Run am_X0 (am_meth d) 145 R 60 [some (.ref 2), some (.int 8)] [] (pre ++ [.inr (.inr (.inr (11, [.ref 3, .ref 4, .ref 5]))), .inl (0, 10, (fun _ => 0)), .inl (0, 5, (am_fi (fun _ => 0) 180 5)), .inr (.inr (.inl (10, fun i => some (6 + i)))), .inl (0, 10, (upd (am_fi (fun _ => 0) 24 10) 0 0)), .inl (0, 10, (upd (am_fi (fun _ => 0) 24 10) 1 0)), .inl (0, 10, (upd (am_fi (fun _ => 0) 24 10) 2 0)), .inl (0, 10, (upd (am_fi (fun _ => 0) 24 10) 3 0)), .inl (0, 10, (upd (am_fi (fun _ => 0) 24 10) 4 0)), .inl (0, 10, (upd (am_fi (fun _ => 0) 24 10) 5 0)), .inl (0, 10, (upd (am_fi (fun _ => 0) 24 10) 6 0)), .inl (0, 10, (upd (am_fi (fun _ => 0) 24 10) 7 0)), .inl (0, 10, (am_fi (fun _ => 0) 24 10)), .inl (0, 10, (fun _ => 0))], 0, 0)
  refine ar_aload_n (j := 0) (q := 61) rfl rfl rfl rfl ?_
  refine ar_getf (v := .ref 5) (q := 64) rfl rfl (gA (j := 0) hp rfl rfl) rfl rfl ?_
  refine ar_iload_n (j := 1) (q := 65) rfl rfl rfl rfl ?_
  refine ar_aald (c2 := 14) (q := 66) rfl (gA (j := 3) hp rfl rfl) rfl rfl rfl ?_
  refine ar_iload_n (j := 1) (q := 67) rfl rfl rfl rfl ?_
  refine ar_iconst (v := 0) (q := 68) rfl rfl rfl ?_
  refine ar_iast (hp2 := pre ++ [.inr (.inr (.inr (11, [.ref 3, .ref 4, .ref 5]))), .inl (0, 10, (fun _ => 0)), .inl (0, 5, (am_fi (fun _ => 0) 180 5)), .inr (.inr (.inl (10, fun i => some (6 + i)))), .inl (0, 10, (upd (am_fi (fun _ => 0) 24 10) 0 0)), .inl (0, 10, (upd (am_fi (fun _ => 0) 24 10) 1 0)), .inl (0, 10, (upd (am_fi (fun _ => 0) 24 10) 2 0)), .inl (0, 10, (upd (am_fi (fun _ => 0) 24 10) 3 0)), .inl (0, 10, (upd (am_fi (fun _ => 0) 24 10) 4 0)), .inl (0, 10, (upd (am_fi (fun _ => 0) 24 10) 5 0)), .inl (0, 10, (upd (am_fi (fun _ => 0) 24 10) 6 0)), .inl (0, 10, (upd (am_fi (fun _ => 0) 24 10) 7 0)), .inl (0, 10, (upd (am_fi (fun _ => 0) 24 10) 8 0)), .inl (0, 10, (fun _ => 0))]) (q := 69) rfl (gA (j := 12) hp rfl rfl) rfl (sA (j := 12) hp rfl rfl) rfl ?_
  refine ar_iinc (v := 9) (ls' := [some (.ref 2), some (.int 9)]) (q := 72) rfl rfl rfl rfl rfl rfl ?_
  refine ar_goto (t := 43) rfl rfl ?_
  refine ar_iload_n (j := 1) (q := 44) rfl rfl rfl rfl ?_
  refine ar_bipush (v := 10) (q := 46) rfl rfl rfl ?_
  refine ar_br (t := 75) (q := 49) am_c_ge rfl rfl rfl (fun c => absurd c (by decide)) (fun _ => ?_)
  refine ar_aload_n (j := 0) (q := 50) rfl rfl rfl rfl ?_
  refine ar_getf (v := .ref 5) (q := 53) rfl rfl (gA (j := 0) hp rfl rfl) rfl rfl ?_
  refine ar_iload_n (j := 1) (q := 54) rfl rfl rfl rfl ?_
  refine ar_aald (c2 := 15) (q := 55) rfl (gA (j := 3) hp rfl rfl) rfl rfl rfl ?_
  refine ar_bipush (v := 24) (q := 57) rfl rfl rfl ?_
  refine ar_invs (as := [.ref 15, .int 24]) (rest := []) (b2 := (0, 0)) (b3 := (0, 0)) (q := 60) rfl rfl rfl rfl rfl rfl rfl rfl rfl ?_
  refine ok_fill (by omega) (gA (j := 13) hp rfl rfl) (by decide) ?_
  dsimp only
  rw [sA (j := 13) (own2 := [.inr (.inr (.inr (11, [.ref 3, .ref 4, .ref 5]))), .inl (0, 10, (fun _ => 0)), .inl (0, 5, (am_fi (fun _ => 0) 180 5)), .inr (.inr (.inl (10, fun i => some (6 + i)))), .inl (0, 10, (upd (am_fi (fun _ => 0) 24 10) 0 0)), .inl (0, 10, (upd (am_fi (fun _ => 0) 24 10) 1 0)), .inl (0, 10, (upd (am_fi (fun _ => 0) 24 10) 2 0)), .inl (0, 10, (upd (am_fi (fun _ => 0) 24 10) 3 0)), .inl (0, 10, (upd (am_fi (fun _ => 0) 24 10) 4 0)), .inl (0, 10, (upd (am_fi (fun _ => 0) 24 10) 5 0)), .inl (0, 10, (upd (am_fi (fun _ => 0) 24 10) 6 0)), .inl (0, 10, (upd (am_fi (fun _ => 0) 24 10) 7 0)), .inl (0, 10, (upd (am_fi (fun _ => 0) 24 10) 8 0)), .inl (0, 10, (am_fi (fun _ => 0) 24 10))]) hp rfl rfl]
  show am_Run am_X0 (am_meth d) 145 R 60 [some (.ref 2), some (.int 9)] [] (pre ++ [.inr (.inr (.inr (11, [.ref 3, .ref 4, .ref 5]))), .inl (0, 10, (fun _ => 0)), .inl (0, 5, (am_fi (fun _ => 0) 180 5)), .inr (.inr (.inl (10, fun i => some (6 + i)))), .inl (0, 10, (upd (am_fi (fun _ => 0) 24 10) 0 0)), .inl (0, 10, (upd (am_fi (fun _ => 0) 24 10) 1 0)), .inl (0, 10, (upd (am_fi (fun _ => 0) 24 10) 2 0)), .inl (0, 10, (upd (am_fi (fun _ => 0) 24 10) 3 0)), .inl (0, 10, (upd (am_fi (fun _ => 0) 24 10) 4 0)), .inl (0, 10, (upd (am_fi (fun _ => 0) 24 10) 5 0)), .inl (0, 10, (upd (am_fi (fun _ => 0) 24 10) 6 0)), .inl (0, 10, (upd (am_fi (fun _ => 0) 24 10) 7 0)), .inl (0, 10, (upd (am_fi (fun _ => 0) 24 10) 8 0)), .inl (0, 10, (am_fi (fun _ => 0) 24 10))], 0, 0)
  refine ar_aload_n (j := 0) (q := 61) rfl rfl rfl rfl ?_
  refine ar_getf (v := .ref 5) (q := 64) rfl rfl (gA (j := 0) hp rfl rfl) rfl rfl ?_
  refine ar_iload_n (j := 1) (q := 65) rfl rfl rfl rfl ?_
  refine ar_aald (c2 := 15) (q := 66) rfl (gA (j := 3) hp rfl rfl) rfl rfl rfl ?_
  refine ar_iload_n (j := 1) (q := 67) rfl rfl rfl rfl ?_
  refine ar_iconst (v := 0) (q := 68) rfl rfl rfl ?_
  refine ar_iast (hp2 := pre ++ [.inr (.inr (.inr (11, [.ref 3, .ref 4, .ref 5]))), .inl (0, 10, (fun _ => 0)), .inl (0, 5, (am_fi (fun _ => 0) 180 5)), .inr (.inr (.inl (10, fun i => some (6 + i)))), .inl (0, 10, (upd (am_fi (fun _ => 0) 24 10) 0 0)), .inl (0, 10, (upd (am_fi (fun _ => 0) 24 10) 1 0)), .inl (0, 10, (upd (am_fi (fun _ => 0) 24 10) 2 0)), .inl (0, 10, (upd (am_fi (fun _ => 0) 24 10) 3 0)), .inl (0, 10, (upd (am_fi (fun _ => 0) 24 10) 4 0)), .inl (0, 10, (upd (am_fi (fun _ => 0) 24 10) 5 0)), .inl (0, 10, (upd (am_fi (fun _ => 0) 24 10) 6 0)), .inl (0, 10, (upd (am_fi (fun _ => 0) 24 10) 7 0)), .inl (0, 10, (upd (am_fi (fun _ => 0) 24 10) 8 0)), .inl (0, 10, (upd (am_fi (fun _ => 0) 24 10) 9 0))]) (q := 69) rfl (gA (j := 13) hp rfl rfl) rfl (sA (j := 13) hp rfl rfl) rfl ?_
  refine ar_iinc (v := 10) (ls' := [some (.ref 2), some (.int 10)]) (q := 72) rfl rfl rfl rfl rfl rfl ?_
  refine ar_goto (t := 43) rfl rfl ?_
  refine ar_iload_n (j := 1) (q := 44) rfl rfl rfl rfl ?_
  refine ar_bipush (v := 10) (q := 46) rfl rfl rfl ?_
  refine ar_br (t := 75) (q := 49) am_c_ge rfl rfl rfl (fun _ => ?_) (fun c => absurd (by decide) c)
  exact ar_vret rfl rfl h
set_option maxRecDepth 20000 in
theorem n_Keepers16 {d : Nat} {R : am_R} {pre : List am_C} (hd : 1 ≤ d) (hp : pre.length = 16) (h : R none (pre ++ [.inr (.inr (.inr (3, [.int 0, .ref 17, .ref 18, .ref 19, .ref 20, .ref 21]))), .inl (0, 20, (fun _ => 0)), .inl (0, 20, (fun _ => 0)), .inl (0, 20, (fun _ => 0)), .inl (0, 20, (fun _ => 0)), .inr (.inr (.inl (20, fun i => some (22 + i)))), .inl (0, 5, (fun _ => 0)), .inl (0, 5, (fun _ => 0)), .inl (0, 5, (fun _ => 0)), .inl (0, 5, (fun _ => 0)), .inl (0, 5, (fun _ => 0)), .inl (0, 5, (fun _ => 0)), .inl (0, 5, (fun _ => 0)), .inl (0, 5, (fun _ => 0)), .inl (0, 5, (fun _ => 0)), .inl (0, 5, (fun _ => 0)), .inl (0, 5, (fun _ => 0)), .inl (0, 5, (fun _ => 0)), .inl (0, 5, (fun _ => 0)), .inl (0, 5, (fun _ => 0)), .inl (0, 5, (fun _ => 0)), .inl (0, 5, (fun _ => 0)), .inl (0, 5, (fun _ => 0)), .inl (0, 5, (fun _ => 0)), .inl (0, 5, (fun _ => 0)), .inl (0, 5, (fun _ => 0))], 0, 0)) : am_meth d 52 [.ref 16] (pre ++ [.inr (.inr (.inr (3, [.int 0, .null, .null, .null, .null, .null])))], 25, 200) R := by
  obtain ⟨d, rfl⟩ : ∃ e, d = e + 1 := ⟨d - 1, by omega⟩
  refine ar_in (ls := [some (.ref 16)]) rfl rfl rfl ?_
  refine ar_aload_n (j := 0) (q := 1) rfl rfl rfl rfl ?_
  refine ar_oi (q := 4) rfl rfl (by decide) rfl ?_
  refine ar_aload_n (j := 0) (q := 5) rfl rfl rfl rfl ?_
  refine ar_bipush (v := 20) (q := 7) rfl rfl rfl ?_
  refine ar_newa (t := 0) (m := 20) (n := 17) (hp2 := pre ++ [.inr (.inr (.inr (3, [.int 0, .null, .null, .null, .null, .null]))), .inl (0, 20, (fun _ => 0))]) (b2 := (24, 180)) (q := 9) (by decide) rfl rfl rfl (lA hp rfl rfl) (aA rfl) rfl rfl ?_
  refine ar_putf (hp2 := pre ++ [.inr (.inr (.inr (3, [.int 0, .ref 17, .null, .null, .null, .null]))), .inl (0, 20, (fun _ => 0))]) (q := 12) rfl rfl (gA (j := 0) hp rfl rfl) rfl (sA (j := 0) hp rfl rfl) rfl ?_
  refine ar_aload_n (j := 0) (q := 13) rfl rfl rfl rfl ?_
  refine ar_bipush (v := 20) (q := 15) rfl rfl rfl ?_
  refine ar_newa (t := 0) (m := 20) (n := 18) (hp2 := pre ++ [.inr (.inr (.inr (3, [.int 0, .ref 17, .null, .null, .null, .null]))), .inl (0, 20, (fun _ => 0)), .inl (0, 20, (fun _ => 0))]) (b2 := (23, 160)) (q := 17) (by decide) rfl rfl rfl (lA hp rfl rfl) (aA rfl) rfl rfl ?_
  refine ar_putf (hp2 := pre ++ [.inr (.inr (.inr (3, [.int 0, .ref 17, .ref 18, .null, .null, .null]))), .inl (0, 20, (fun _ => 0)), .inl (0, 20, (fun _ => 0))]) (q := 20) rfl rfl (gA (j := 0) hp rfl rfl) rfl (sA (j := 0) hp rfl rfl) rfl ?_
  refine ar_aload_n (j := 0) (q := 21) rfl rfl rfl rfl ?_
  refine ar_bipush (v := 20) (q := 23) rfl rfl rfl ?_
  refine ar_newa (t := 0) (m := 20) (n := 19) (hp2 := pre ++ [.inr (.inr (.inr (3, [.int 0, .ref 17, .ref 18, .null, .null, .null]))), .inl (0, 20, (fun _ => 0)), .inl (0, 20, (fun _ => 0)), .inl (0, 20, (fun _ => 0))]) (b2 := (22, 140)) (q := 25) (by decide) rfl rfl rfl (lA hp rfl rfl) (aA rfl) rfl rfl ?_
  refine ar_putf (hp2 := pre ++ [.inr (.inr (.inr (3, [.int 0, .ref 17, .ref 18, .ref 19, .null, .null]))), .inl (0, 20, (fun _ => 0)), .inl (0, 20, (fun _ => 0)), .inl (0, 20, (fun _ => 0))]) (q := 28) rfl rfl (gA (j := 0) hp rfl rfl) rfl (sA (j := 0) hp rfl rfl) rfl ?_
  refine ar_aload_n (j := 0) (q := 29) rfl rfl rfl rfl ?_
  refine ar_bipush (v := 20) (q := 31) rfl rfl rfl ?_
  refine ar_newa (t := 0) (m := 20) (n := 20) (hp2 := pre ++ [.inr (.inr (.inr (3, [.int 0, .ref 17, .ref 18, .ref 19, .null, .null]))), .inl (0, 20, (fun _ => 0)), .inl (0, 20, (fun _ => 0)), .inl (0, 20, (fun _ => 0)), .inl (0, 20, (fun _ => 0))]) (b2 := (21, 120)) (q := 33) (by decide) rfl rfl rfl (lA hp rfl rfl) (aA rfl) rfl rfl ?_
  refine ar_putf (hp2 := pre ++ [.inr (.inr (.inr (3, [.int 0, .ref 17, .ref 18, .ref 19, .ref 20, .null]))), .inl (0, 20, (fun _ => 0)), .inl (0, 20, (fun _ => 0)), .inl (0, 20, (fun _ => 0)), .inl (0, 20, (fun _ => 0))]) (q := 36) rfl rfl (gA (j := 0) hp rfl rfl) rfl (sA (j := 0) hp rfl rfl) rfl ?_
  refine ar_aload_n (j := 0) (q := 37) rfl rfl rfl rfl ?_
  refine ar_bipush (v := 20) (q := 39) rfl rfl rfl ?_
  refine ar_iconst (v := 5) (q := 40) rfl rfl rfl ?_
  refine ar_mna (m := 20) (j := 5) (n := 21) (hp2 := pre ++ [.inr (.inr (.inr (3, [.int 0, .ref 17, .ref 18, .ref 19, .ref 20, .null]))), .inl (0, 20, (fun _ => 0)), .inl (0, 20, (fun _ => 0)), .inl (0, 20, (fun _ => 0)), .inl (0, 20, (fun _ => 0)), .inr (.inr (.inl (20, fun i => some (22 + i)))), .inl (0, 5, (fun _ => 0)), .inl (0, 5, (fun _ => 0)), .inl (0, 5, (fun _ => 0)), .inl (0, 5, (fun _ => 0)), .inl (0, 5, (fun _ => 0)), .inl (0, 5, (fun _ => 0)), .inl (0, 5, (fun _ => 0)), .inl (0, 5, (fun _ => 0)), .inl (0, 5, (fun _ => 0)), .inl (0, 5, (fun _ => 0)), .inl (0, 5, (fun _ => 0)), .inl (0, 5, (fun _ => 0)), .inl (0, 5, (fun _ => 0)), .inl (0, 5, (fun _ => 0)), .inl (0, 5, (fun _ => 0)), .inl (0, 5, (fun _ => 0)), .inl (0, 5, (fun _ => 0)), .inl (0, 5, (fun _ => 0)), .inl (0, 5, (fun _ => 0)), .inl (0, 5, (fun _ => 0))]) (b2 := (0, 0)) (q := 44) rfl rfl rfl rfl (lA hp rfl rfl) (aA rfl) rfl rfl ?_
  refine ar_putf (hp2 := pre ++ [.inr (.inr (.inr (3, [.int 0, .ref 17, .ref 18, .ref 19, .ref 20, .ref 21]))), .inl (0, 20, (fun _ => 0)), .inl (0, 20, (fun _ => 0)), .inl (0, 20, (fun _ => 0)), .inl (0, 20, (fun _ => 0)), .inr (.inr (.inl (20, fun i => some (22 + i)))), .inl (0, 5, (fun _ => 0)), .inl (0, 5, (fun _ => 0)), .inl (0, 5, (fun _ => 0)), .inl (0, 5, (fun _ => 0)), .inl (0, 5, (fun _ => 0)), .inl (0, 5, (fun _ => 0)), .inl (0, 5, (fun _ => 0)), .inl (0, 5, (fun _ => 0)), .inl (0, 5, (fun _ => 0)), .inl (0, 5, (fun _ => 0)), .inl (0, 5, (fun _ => 0)), .inl (0, 5, (fun _ => 0)), .inl (0, 5, (fun _ => 0)), .inl (0, 5, (fun _ => 0)), .inl (0, 5, (fun _ => 0)), .inl (0, 5, (fun _ => 0)), .inl (0, 5, (fun _ => 0)), .inl (0, 5, (fun _ => 0)), .inl (0, 5, (fun _ => 0)), .inl (0, 5, (fun _ => 0))]) (q := 47) rfl rfl (gA (j := 0) hp rfl rfl) rfl (sA (j := 0) hp rfl rfl) rfl ?_
  exact ar_vret rfl rfl h
set_option maxRecDepth 20000 in
theorem n_Houses42 {d : Nat} {R : am_R} {pre : List am_C} (hd : 2 ≤ d) (hp : pre.length = 42) (h : R none (pre ++ [.inr (.inr (.inr (2, [.int 0, .ref 43, .ref 44, .ref 45]))), .inl (0, 20, (fun _ => 0)), .inl (0, 20, (fun _ => 0)), .inr (.inr (.inl (20, fun i => some (46 + i)))), .inl (0, 31, (am_fi (fun _ => 0) 1 31)), .inl (0, 31, (am_fi (fun _ => 0) 1 31)), .inl (0, 31, (am_fi (fun _ => 0) 1 31)), .inl (0, 31, (am_fi (fun _ => 0) 1 31)), .inl (0, 31, (am_fi (fun _ => 0) 1 31)), .inl (0, 31, (am_fi (fun _ => 0) 1 31)), .inl (0, 31, (am_fi (fun _ => 0) 1 31)), .inl (0, 31, (am_fi (fun _ => 0) 1 31)), .inl (0, 31, (am_fi (fun _ => 0) 1 31)), .inl (0, 31, (am_fi (fun _ => 0) 1 31)), .inl (0, 31, (am_fi (fun _ => 0) 1 31)), .inl (0, 31, (am_fi (fun _ => 0) 1 31)), .inl (0, 31, (am_fi (fun _ => 0) 1 31)), .inl (0, 31, (am_fi (fun _ => 0) 1 31)), .inl (0, 31, (am_fi (fun _ => 0) 1 31)), .inl (0, 31, (am_fi (fun _ => 0) 1 31)), .inl (0, 31, (am_fi (fun _ => 0) 1 31)), .inl (0, 31, (am_fi (fun _ => 0) 1 31)), .inl (0, 31, (am_fi (fun _ => 0) 1 31)), .inl (0, 31, (am_fi (fun _ => 0) 1 31))], 0, 0)) : am_meth d 48 [.ref 42] (pre ++ [.inr (.inr (.inr (2, [.int 0, .null, .null, .null])))], 23, 680) R := by
  obtain ⟨d, rfl⟩ : ∃ e, d = e + 1 := ⟨d - 1, by omega⟩
  refine ar_in (ls := [some (.ref 42), none]) rfl rfl rfl ?_
  refine ar_aload_n (j := 0) (q := 1) rfl rfl rfl rfl ?_
  refine ar_oi (q := 4) rfl rfl (by decide) rfl ?_
  refine ar_aload_n (j := 0) (q := 5) rfl rfl rfl rfl ?_
  refine ar_bipush (v := 20) (q := 7) rfl rfl rfl ?_
  refine ar_newa (t := 0) (m := 20) (n := 43) (hp2 := pre ++ [.inr (.inr (.inr (2, [.int 0, .null, .null, .null]))), .inl (0, 20, (fun _ => 0))]) (b2 := (22, 660)) (q := 9) (by decide) rfl rfl rfl (lA hp rfl rfl) (aA rfl) rfl rfl ?_
  refine ar_putf (hp2 := pre ++ [.inr (.inr (.inr (2, [.int 0, .ref 43, .null, .null]))), .inl (0, 20, (fun _ => 0))]) (q := 12) rfl rfl (gA (j := 0) hp rfl rfl) rfl (sA (j := 0) hp rfl rfl) rfl ?_
  refine ar_aload_n (j := 0) (q := 13) rfl rfl rfl rfl ?_
  refine ar_bipush (v := 20) (q := 15) rfl rfl rfl ?_
  refine ar_newa (t := 0) (m := 20) (n := 44) (hp2 := pre ++ [.inr (.inr (.inr (2, [.int 0, .ref 43, .null, .null]))), .inl (0, 20, (fun _ => 0)), .inl (0, 20, (fun _ => 0))]) (b2 := (21, 640)) (q := 17) (by decide) rfl rfl rfl (lA hp rfl rfl) (aA rfl) rfl rfl ?_
  refine ar_putf (hp2 := pre ++ [.inr (.inr (.inr (2, [.int 0, .ref 43, .ref 44, .null]))), .inl (0, 20, (fun _ => 0)), .inl (0, 20, (fun _ => 0))]) (q := 20) rfl rfl (gA (j := 0) hp rfl rfl) rfl (sA (j := 0) hp rfl rfl) rfl ?_
  refine ar_aload_n (j := 0) (q := 21) rfl rfl rfl rfl ?_
  refine ar_bipush (v := 20) (q := 23) rfl rfl rfl ?_
  refine ar_bipush (v := 31) (q := 25) rfl rfl rfl ?_
  refine ar_mna (m := 20) (j := 31) (n := 45) (hp2 := pre ++ [.inr (.inr (.inr (2, [.int 0, .ref 43, .ref 44, .null]))), .inl (0, 20, (fun _ => 0)), .inl (0, 20, (fun _ => 0)), .inr (.inr (.inl (20, fun i => some (46 + i)))), .inl (0, 31, (fun _ => 0)), .inl (0, 31, (fun _ => 0)), .inl (0, 31, (fun _ => 0)), .inl (0, 31, (fun _ => 0)), .inl (0, 31, (fun _ => 0)), .inl (0, 31, (fun _ => 0)), .inl (0, 31, (fun _ => 0)), .inl (0, 31, (fun _ => 0)), .inl (0, 31, (fun _ => 0)), .inl (0, 31, (fun _ => 0)), .inl (0, 31, (fun _ => 0)), .inl (0, 31, (fun _ => 0)), .inl (0, 31, (fun _ => 0)), .inl (0, 31, (fun _ => 0)), .inl (0, 31, (fun _ => 0)), .inl (0, 31, (fun _ => 0)), .inl (0, 31, (fun _ => 0)), .inl (0, 31, (fun _ => 0)), .inl (0, 31, (fun _ => 0)), .inl (0, 31, (fun _ => 0))]) (b2 := (0, 0)) (q := 29) rfl rfl rfl rfl (lA hp rfl rfl) (aA rfl) rfl rfl ?_
  refine ar_putf (hp2 := pre ++ [.inr (.inr (.inr (2, [.int 0, .ref 43, .ref 44, .ref 45]))), .inl (0, 20, (fun _ => 0)), .inl (0, 20, (fun _ => 0)), .inr (.inr (.inl (20, fun i => some (46 + i)))), .inl (0, 31, (fun _ => 0)), .inl (0, 31, (fun _ => 0)), .inl (0, 31, (fun _ => 0)), .inl (0, 31, (fun _ => 0)), .inl (0, 31, (fun _ => 0)), .inl (0, 31, (fun _ => 0)), .inl (0, 31, (fun _ => 0)), .inl (0, 31, (fun _ => 0)), .inl (0, 31, (fun _ => 0)), .inl (0, 31, (fun _ => 0)), .inl (0, 31, (fun _ => 0)), .inl (0, 31, (fun _ => 0)), .inl (0, 31, (fun _ => 0)), .inl (0, 31, (fun _ => 0)), .inl (0, 31, (fun _ => 0)), .inl (0, 31, (fun _ => 0)), .inl (0, 31, (fun _ => 0)), .inl (0, 31, (fun _ => 0)), .inl (0, 31, (fun _ => 0)), .inl (0, 31, (fun _ => 0))]) (q := 32) rfl rfl (gA (j := 0) hp rfl rfl) rfl (sA (j := 0) hp rfl rfl) rfl ?_
  refine ar_iconst (v := 0) (q := 33) rfl rfl rfl ?_
  refine ar_istore_n (j := 1) (ls' := [some (.ref 42), some (.int 0)]) (q := 34) rfl rfl rfl rfl rfl ?_
  refine ar_iload_n (j := 1) (q := 35) rfl rfl rfl rfl ?_
  refine ar_bipush (v := 20) (q := 37) rfl rfl rfl ?_
  refine ar_br (t := 56) (q := 40) am_c_ge rfl rfl rfl (fun c => absurd c (by decide)) (fun _ => ?_)
  refine ar_aload_n (j := 0) (q := 41) rfl rfl rfl rfl ?_
  refine ar_getf (v := .ref 45) (q := 44) rfl rfl (gA (j := 0) hp rfl rfl) rfl rfl ?_
  refine ar_iload_n (j := 1) (q := 45) rfl rfl rfl rfl ?_
  refine ar_aald (c2 := 46) (q := 46) rfl (gA (j := 3) hp rfl rfl) rfl rfl rfl ?_
  refine ar_iconst (v := 1) (q := 47) rfl rfl rfl ?_
  refine ar_invs (as := [.ref 46, .int 1]) (rest := []) (b2 := (0, 0)) (b3 := (0, 0)) (q := 50) rfl rfl rfl rfl rfl rfl rfl rfl rfl ?_
  refine ok_fill (by omega) (gA (j := 4) hp rfl rfl) (by decide) ?_
  dsimp only
  rw [sA (j := 4) (own2 := [.inr (.inr (.inr (2, [.int 0, .ref 43, .ref 44, .ref 45]))), .inl (0, 20, (fun _ => 0)), .inl (0, 20, (fun _ => 0)), .inr (.inr (.inl (20, fun i => some (46 + i)))), .inl (0, 31, (am_fi (fun _ => 0) 1 31)), .inl (0, 31, (fun _ => 0)), .inl (0, 31, (fun _ => 0)), .inl (0, 31, (fun _ => 0)), .inl (0, 31, (fun _ => 0)), .inl (0, 31, (fun _ => 0)), .inl (0, 31, (fun _ => 0)), .inl (0, 31, (fun _ => 0)), .inl (0, 31, (fun _ => 0)), .inl (0, 31, (fun _ => 0)), .inl (0, 31, (fun _ => 0)), .inl (0, 31, (fun _ => 0)), .inl (0, 31, (fun _ => 0)), .inl (0, 31, (fun _ => 0)), .inl (0, 31, (fun _ => 0)), .inl (0, 31, (fun _ => 0)), .inl (0, 31, (fun _ => 0)), .inl (0, 31, (fun _ => 0)), .inl (0, 31, (fun _ => 0)), .inl (0, 31, (fun _ => 0))]) hp rfl rfl]
  show am_Run am_X0 (am_meth d) 48 R 50 [some (.ref 42), some (.int 0)] [] (pre ++ [.inr (.inr (.inr (2, [.int 0, .ref 43, .ref 44, .ref 45]))), .inl (0, 20, (fun _ => 0)), .inl (0, 20, (fun _ => 0)), .inr (.inr (.inl (20, fun i => some (46 + i)))), .inl (0, 31, (am_fi (fun _ => 0) 1 31)), .inl (0, 31, (fun _ => 0)), .inl (0, 31, (fun _ => 0)), .inl (0, 31, (fun _ => 0)), .inl (0, 31, (fun _ => 0)), .inl (0, 31, (fun _ => 0)), .inl (0, 31, (fun _ => 0)), .inl (0, 31, (fun _ => 0)), .inl (0, 31, (fun _ => 0)), .inl (0, 31, (fun _ => 0)), .inl (0, 31, (fun _ => 0)), .inl (0, 31, (fun _ => 0)), .inl (0, 31, (fun _ => 0)), .inl (0, 31, (fun _ => 0)), .inl (0, 31, (fun _ => 0)), .inl (0, 31, (fun _ => 0)), .inl (0, 31, (fun _ => 0)), .inl (0, 31, (fun _ => 0)), .inl (0, 31, (fun _ => 0)), .inl (0, 31, (fun _ => 0))], 0, 0)
  refine ar_iinc (v := 1) (ls' := [some (.ref 42), some (.int 1)]) (q := 53) rfl rfl rfl rfl rfl rfl ?_
  refine ar_goto (t := 34) rfl rfl ?_
  refine ar_iload_n (j := 1) (q := 35) rfl rfl rfl rfl ?_
  refine ar_bipush (v := 20) (q := 37) rfl rfl rfl ?_
  refine ar_br (t := 56) (q := 40) am_c_ge rfl rfl rfl (fun c => absurd c (by decide)) (fun _ => ?_)
  refine ar_aload_n (j := 0) (q := 41) rfl rfl rfl rfl ?_
  refine ar_getf (v := .ref 45) (q := 44) rfl rfl (gA (j := 0) hp rfl rfl) rfl rfl ?_
  refine ar_iload_n (j := 1) (q := 45) rfl rfl rfl rfl ?_
  refine ar_aald (c2 := 47) (q := 46) rfl (gA (j := 3) hp rfl rfl) rfl rfl rfl ?_
  refine ar_iconst (v := 1) (q := 47) rfl rfl rfl ?_
  refine ar_invs (as := [.ref 47, .int 1]) (rest := []) (b2 := (0, 0)) (b3 := (0, 0)) (q := 50) rfl rfl rfl rfl rfl rfl rfl rfl rfl ?_
  refine ok_fill (by omega) (gA (j := 5) hp rfl rfl) (by decide) ?_
  dsimp only
  rw [sA (j := 5) (own2 := [.inr (.inr (.inr (2, [.int 0, .ref 43, .ref 44, .ref 45]))), .inl (0, 20, (fun _ => 0)), .inl (0, 20, (fun _ => 0)), .inr (.inr (.inl (20, fun i => some (46 + i)))), .inl (0, 31, (am_fi (fun _ => 0) 1 31)), .inl (0, 31, (am_fi (fun _ => 0) 1 31)), .inl (0, 31, (fun _ => 0)), .inl (0, 31, (fun _ => 0)), .inl (0, 31, (fun _ => 0)), .inl (0, 31, (fun _ => 0)), .inl (0, 31, (fun _ => 0)), .inl (0, 31, (fun _ => 0)), .inl (0, 31, (fun _ => 0)), .inl (0, 31, (fun _ => 0)), .inl (0, 31, (fun _ => 0)), .inl (0, 31, (fun _ => 0)), .inl (0, 31, (fun _ => 0)), .inl (0, 31, (fun _ => 0)), .inl (0, 31, (fun _ => 0)), .inl (0, 31, (fun _ => 0)), .inl (0, 31, (fun _ => 0)), .inl (0, 31, (fun _ => 0)), .inl (0, 31, (fun _ => 0)), .inl (0, 31, (fun _ => 0))]) hp rfl rfl]
  show am_Run am_X0 (am_meth d) 48 R 50 [some (.ref 42), some (.int 1)] [] (pre ++ [.inr (.inr (.inr (2, [.int 0, .ref 43, .ref 44, .ref 45]))), .inl (0, 20, (fun _ => 0)), .inl (0, 20, (fun _ => 0)), .inr (.inr (.inl (20, fun i => some (46 + i)))), .inl (0, 31, (am_fi (fun _ => 0) 1 31)), .inl (0, 31, (am_fi (fun _ => 0) 1 31)), .inl (0, 31, (fun _ => 0)), .inl (0, 31, (fun _ => 0)), .inl (0, 31, (fun _ => 0)), .inl (0, 31, (fun _ => 0)), .inl (0, 31, (fun _ => 0)), .inl (0, 31, (fun _ => 0)), .inl (0, 31, (fun _ => 0)), .inl (0, 31, (fun _ => 0)), .inl (0, 31, (fun _ => 0)), .inl (0, 31, (fun _ => 0)), .inl (0, 31, (fun _ => 0)), .inl (0, 31, (fun _ => 0)), .inl (0, 31, (fun _ => 0)), .inl (0, 31, (fun _ => 0)), .inl (0, 31, (fun _ => 0)), .inl (0, 31, (fun _ => 0)), .inl (0, 31, (fun _ => 0)), .inl (0, 31, (fun _ => 0))], 0, 0)
  refine ar_iinc (v := 2) (ls' := [some (.ref 42), some (.int 2)]) (q := 53) rfl rfl rfl rfl rfl rfl ?_
  refine ar_goto (t := 34) rfl rfl ?_
  refine ar_iload_n (j := 1) (q := 35) rfl rfl rfl rfl ?_
  refine ar_bipush (v := 20) (q := 37) rfl rfl rfl ?_
  refine ar_br (t := 56) (q := 40) am_c_ge rfl rfl rfl (fun c => absurd c (by decide)) (fun _ => ?_)
  refine ar_aload_n (j := 0) (q := 41) rfl rfl rfl rfl ?_
  refine ar_getf (v := .ref 45) (q := 44) rfl rfl (gA (j := 0) hp rfl rfl) rfl rfl ?_
  refine ar_iload_n (j := 1) (q := 45) rfl rfl rfl rfl ?_
  refine ar_aald (c2 := 48) (q := 46) rfl (gA (j := 3) hp rfl rfl) rfl rfl rfl ?_
  refine ar_iconst (v := 1) (q := 47) rfl rfl rfl ?_
  refine ar_invs (as := [.ref 48, .int 1]) (rest := []) (b2 := (0, 0)) (b3 := (0, 0)) (q := 50) rfl rfl rfl rfl rfl rfl rfl rfl rfl ?_
  refine ok_fill (by omega) (gA (j := 6) hp rfl rfl) (by decide) ?_
  dsimp only
  rw [sA (j := 6) (own2 := [.inr (.inr (.inr (2, [.int 0, .ref 43, .ref 44, .ref 45]))), .inl (0, 20, (fun _ => 0)), .inl (0, 20, (fun _ => 0)), .inr (.inr (.inl (20, fun i => some (46 + i)))), .inl (0, 31, (am_fi (fun _ => 0) 1 31)), .inl (0, 31, (am_fi (fun _ => 0) 1 31)), .inl (0, 31, (am_fi (fun _ => 0) 1 31)), .inl (0, 31, (fun _ => 0)), .inl (0, 31, (fun _ => 0)), .inl (0, 31, (fun _ => 0)), .inl (0, 31, (fun _ => 0)), .inl (0, 31, (fun _ => 0)), .inl (0, 31, (fun _ => 0)), .inl (0, 31, (fun _ => 0)), .inl (0, 31, (fun _ => 0)), .inl (0, 31, (fun _ => 0)), .inl (0, 31, (fun _ => 0)), .inl (0, 31, (fun _ => 0)), .inl (0, 31, (fun _ => 0)), .inl (0, 31, (fun _ => 0)), .inl (0, 31, (fun _ => 0)), .inl (0, 31, (fun _ => 0)), .inl (0, 31, (fun _ => 0)), .inl (0, 31, (fun _ => 0))]) hp rfl rfl]
  show am_Run am_X0 (am_meth d) 48 R 50 [some (.ref 42), some (.int 2)] [] (pre ++ [.inr (.inr (.inr (2, [.int 0, .ref 43, .ref 44, .ref 45]))), .inl (0, 20, (fun _ => 0)), .inl (0, 20, (fun _ => 0)), .inr (.inr (.inl (20, fun i => some (46 + i)))), .inl (0, 31, (am_fi (fun _ => 0) 1 31)), .inl (0, 31, (am_fi (fun _ => 0) 1 31)), .inl (0, 31, (am_fi (fun _ => 0) 1 31)), .inl (0, 31, (fun _ => 0)), .inl (0, 31, (fun _ => 0)), .inl (0, 31, (fun _ => 0)), .inl (0, 31, (fun _ => 0)), .inl (0, 31, (fun _ => 0)), .inl (0, 31, (fun _ => 0)), .inl (0, 31, (fun _ => 0)), .inl (0, 31, (fun _ => 0)), .inl (0, 31, (fun _ => 0)), .inl (0, 31, (fun _ => 0)), .inl (0, 31, (fun _ => 0)), .inl (0, 31, (fun _ => 0)), .inl (0, 31, (fun _ => 0)), .inl (0, 31, (fun _ => 0)), .inl (0, 31, (fun _ => 0)), .inl (0, 31, (fun _ => 0)), .inl (0, 31, (fun _ => 0))], 0, 0)
  refine ar_iinc (v := 3) (ls' := [some (.ref 42), some (.int 3)]) (q := 53) rfl rfl rfl rfl rfl rfl ?_
  refine ar_goto (t := 34) rfl rfl ?_
  refine ar_iload_n (j := 1) (q := 35) rfl rfl rfl rfl ?_
  refine ar_bipush (v := 20) (q := 37) rfl rfl rfl ?_
  refine ar_br (t := 56) (q := 40) am_c_ge rfl rfl rfl (fun c => absurd c (by decide)) (fun _ => ?_)
  refine ar_aload_n (j := 0) (q := 41) rfl rfl rfl rfl ?_
  refine ar_getf (v := .ref 45) (q := 44) rfl rfl (gA (j := 0) hp rfl rfl) rfl rfl ?_
  refine ar_iload_n (j := 1) (q := 45) rfl rfl rfl rfl ?_
  refine ar_aald (c2 := 49) (q := 46) rfl (gA (j := 3) hp rfl rfl) rfl rfl rfl ?_
  refine ar_iconst (v := 1) (q := 47) rfl rfl rfl ?_
  refine ar_invs (as := [.ref 49, .int 1]) (rest := []) (b2 := (0, 0)) (b3 := (0, 0)) (q := 50) rfl rfl rfl rfl rfl rfl rfl rfl rfl ?_
  refine ok_fill (by omega) (gA (j := 7) hp rfl rfl) (by decide) ?_
  dsimp only
  rw [sA (j := 7) (own2 := [.inr (.inr (.inr (2, [.int 0, .ref 43, .ref 44, .ref 45]))), .inl (0, 20, (fun _ => 0)), .inl (0, 20, (fun _ => 0)), .inr (.inr (.inl (20, fun i => some (46 + i)))), .inl (0, 31, (am_fi (fun _ => 0) 1 31)), .inl (0, 31, (am_fi (fun _ => 0) 1 31)), .inl (0, 31, (am_fi (fun _ => 0) 1 31)), .inl (0, 31, (am_fi (fun _ => 0) 1 31)), .inl (0, 31, (fun _ => 0)), .inl (0, 31, (fun _ => 0)), .inl (0, 31, (fun _ => 0)), .inl (0, 31, (fun _ => 0)), .inl (0, 31, (fun _ => 0)), .inl (0, 31, (fun _ => 0)), .inl (0, 31, (fun _ => 0)), .inl (0, 31, (fun _ => 0)), .inl (0, 31, (fun _ => 0)), .inl (0, 31, (fun _ => 0)), .inl (0, 31, (fun _ => 0)), .inl (0, 31, (fun _ => 0)), .inl (0, 31, (fun _ => 0)), .inl (0, 31, (fun _ => 0)), .inl (0, 31, (fun _ => 0)), .inl (0, 31, (fun _ => 0))]) hp rfl rfl]
  show am_Run am_X0 (am_meth d) 48 R 50 [some (.ref 42), some (.int 3)] [] (pre ++ [.inr (.inr (.inr (2, [.int 0, .ref 43, .ref 44, .ref 45]))), .inl (0, 20, (fun _ => 0)), .inl (0, 20, (fun _ => 0)), .inr (.inr (.inl (20, fun i => some (46 + i)))), .inl (0, 31, (am_fi (fun _ => 0) 1 31)), .inl (0, 31, (am_fi (fun _ => 0) 1 31)), .inl (0, 31, (am_fi (fun _ => 0) 1 31)), .inl (0, 31, (am_fi (fun _ => 0) 1 31)), .inl (0, 31, (fun _ => 0)), .inl (0, 31, (fun _ => 0)), .inl (0, 31, (fun _ => 0)), .inl (0, 31, (fun _ => 0)), .inl (0, 31, (fun _ => 0)), .inl (0, 31, (fun _ => 0)), .inl (0, 31, (fun _ => 0)), .inl (0, 31, (fun _ => 0)), .inl (0, 31, (fun _ => 0)), .inl (0, 31, (fun _ => 0)), .inl (0, 31, (fun _ => 0)), .inl (0, 31, (fun _ => 0)), .inl (0, 31, (fun _ => 0)), .inl (0, 31, (fun _ => 0)), .inl (0, 31, (fun _ => 0)), .inl (0, 31, (fun _ => 0))], 0, 0)
  refine ar_iinc (v := 4) (ls' := [some (.ref 42), some (.int 4)]) (q := 53) rfl rfl rfl rfl rfl rfl ?_
  refine ar_goto (t := 34) rfl rfl ?_
  refine ar_iload_n (j := 1) (q := 35) rfl rfl rfl rfl ?_
  refine ar_bipush (v := 20) (q := 37) rfl rfl rfl ?_
  refine ar_br (t := 56) (q := 40) am_c_ge rfl rfl rfl (fun c => absurd c (by decide)) (fun _ => ?_)
  refine ar_aload_n (j := 0) (q := 41) rfl rfl rfl rfl ?_
  refine ar_getf (v := .ref 45) (q := 44) rfl rfl (gA (j := 0) hp rfl rfl) rfl rfl ?_
  refine ar_iload_n (j := 1) (q := 45) rfl rfl rfl rfl ?_
  refine ar_aald (c2 := 50) (q := 46) rfl (gA (j := 3) hp rfl rfl) rfl rfl rfl ?_
  refine ar_iconst (v := 1) (q := 47) rfl rfl rfl ?_
  refine ar_invs (as := [.ref 50, .int 1]) (rest := []) (b2 := (0, 0)) (b3 := (0, 0)) (q := 50) rfl rfl rfl rfl rfl rfl rfl rfl rfl ?_
  refine ok_fill (by omega) (gA (j := 8) hp rfl rfl) (by decide) ?_
  dsimp only
  rw [sA (j := 8) (own2 := [.inr (.inr (.inr (2, [.int 0, .ref 43, .ref 44, .ref 45]))), .inl (0, 20, (fun _ => 0)), .inl (0, 20, (fun _ => 0)), .inr (.inr (.inl (20, fun i => some (46 + i)))), .inl (0, 31, (am_fi (fun _ => 0) 1 31)), .inl (0, 31, (am_fi (fun _ => 0) 1 31)), .inl (0, 31, (am_fi (fun _ => 0) 1 31)), .inl (0, 31, (am_fi (fun _ => 0) 1 31)), .inl (0, 31, (am_fi (fun _ => 0) 1 31)), .inl (0, 31, (fun _ => 0)), .inl (0, 31, (fun _ => 0)), .inl (0, 31, (fun _ => 0)), .inl (0, 31, (fun _ => 0)), .inl (0, 31, (fun _ => 0)), .inl (0, 31, (fun _ => 0)), .inl (0, 31, (fun _ => 0)), .inl (0, 31, (fun _ => 0)), .inl (0, 31, (fun _ => 0)), .inl (0, 31, (fun _ => 0)), .inl (0, 31, (fun _ => 0)), .inl (0, 31, (fun _ => 0)), .inl (0, 31, (fun _ => 0)), .inl (0, 31, (fun _ => 0)), .inl (0, 31, (fun _ => 0))]) hp rfl rfl]
  show am_Run am_X0 (am_meth d) 48 R 50 [some (.ref 42), some (.int 4)] [] (pre ++ [.inr (.inr (.inr (2, [.int 0, .ref 43, .ref 44, .ref 45]))), .inl (0, 20, (fun _ => 0)), .inl (0, 20, (fun _ => 0)), .inr (.inr (.inl (20, fun i => some (46 + i)))), .inl (0, 31, (am_fi (fun _ => 0) 1 31)), .inl (0, 31, (am_fi (fun _ => 0) 1 31)), .inl (0, 31, (am_fi (fun _ => 0) 1 31)), .inl (0, 31, (am_fi (fun _ => 0) 1 31)), .inl (0, 31, (am_fi (fun _ => 0) 1 31)), .inl (0, 31, (fun _ => 0)), .inl (0, 31, (fun _ => 0)), .inl (0, 31, (fun _ => 0)), .inl (0, 31, (fun _ => 0)), .inl (0, 31, (fun _ => 0)), .inl (0, 31, (fun _ => 0)), .inl (0, 31, (fun _ => 0)), .inl (0, 31, (fun _ => 0)), .inl (0, 31, (fun _ => 0)), .inl (0, 31, (fun _ => 0)), .inl (0, 31, (fun _ => 0)), .inl (0, 31, (fun _ => 0)), .inl (0, 31, (fun _ => 0)), .inl (0, 31, (fun _ => 0)), .inl (0, 31, (fun _ => 0))], 0, 0)
  refine ar_iinc (v := 5) (ls' := [some (.ref 42), some (.int 5)]) (q := 53) rfl rfl rfl rfl rfl rfl ?_
  refine ar_goto (t := 34) rfl rfl ?_
  refine ar_iload_n (j := 1) (q := 35) rfl rfl rfl rfl ?_
  refine ar_bipush (v := 20) (q := 37) rfl rfl rfl ?_
  refine ar_br (t := 56) (q := 40) am_c_ge rfl rfl rfl (fun c => absurd c (by decide)) (fun _ => ?_)
  refine ar_aload_n (j := 0) (q := 41) rfl rfl rfl rfl ?_
  refine ar_getf (v := .ref 45) (q := 44) rfl rfl (gA (j := 0) hp rfl rfl) rfl rfl ?_
  refine ar_iload_n (j := 1) (q := 45) rfl rfl rfl rfl ?_
  refine ar_aald (c2 := 51) (q := 46) rfl (gA (j := 3) hp rfl rfl) rfl rfl rfl ?_
  refine ar_iconst (v := 1) (q := 47) rfl rfl rfl ?_
  refine ar_invs (as := [.ref 51, .int 1]) (rest := []) (b2 := (0, 0)) (b3 := (0, 0)) (q := 50) rfl rfl rfl rfl rfl rfl rfl rfl rfl ?_
  refine ok_fill (by omega) (gA (j := 9) hp rfl rfl) (by decide) ?_
  dsimp only
  rw [sA (j := 9) (own2 := [.inr (.inr (.inr (2, [.int 0, .ref 43, .ref 44, .ref 45]))), .inl (0, 20, (fun _ => 0)), .inl (0, 20, (fun _ => 0)), .inr (.inr (.inl (20, fun i => some (46 + i)))), .inl (0, 31, (am_fi (fun _ => 0) 1 31)), .inl (0, 31, (am_fi (fun _ => 0) 1 31)), .inl (0, 31, (am_fi (fun _ => 0) 1 31)), .inl (0, 31, (am_fi (fun _ => 0) 1 31)), .inl (0, 31, (am_fi (fun _ => 0) 1 31)), .inl (0, 31, (am_fi (fun _ => 0) 1 31)), .inl (0, 31, (fun _ => 0)), .inl (0, 31, (fun _ => 0)), .inl (0, 31, (fun _ => 0)), .inl (0, 31, (fun _ => 0)), .inl (0, 31, (fun _ => 0)), .inl (0, 31, (fun _ => 0)), .inl (0, 31, (fun _ => 0)), .inl (0, 31, (fun _ => 0)), .inl (0, 31, (fun _ => 0)), .inl (0, 31, (fun _ => 0)), .inl (0, 31, (fun _ => 0)), .inl (0, 31, (fun _ => 0)), .inl (0, 31, (fun _ => 0)), .inl (0, 31, (fun _ => 0))]) hp rfl rfl]
  show am_Run am_X0 (am_meth d) 48 R 50 [some (.ref 42), some (.int 5)] [] (pre ++ [.inr (.inr (.inr (2, [.int 0, .ref 43, .ref 44, .ref 45]))), .inl (0, 20, (fun _ => 0)), .inl (0, 20, (fun _ => 0)), .inr (.inr (.inl (20, fun i => some (46 + i)))), .inl (0, 31, (am_fi (fun _ => 0) 1 31)), .inl (0, 31, (am_fi (fun _ => 0) 1 31)), .inl (0, 31, (am_fi (fun _ => 0) 1 31)), .inl (0, 31, (am_fi (fun _ => 0) 1 31)), .inl (0, 31, (am_fi (fun _ => 0) 1 31)), .inl (0, 31, (am_fi (fun _ => 0) 1 31)), .inl (0, 31, (fun _ => 0)), .inl (0, 31, (fun _ => 0)), .inl (0, 31, (fun _ => 0)), .inl (0, 31, (fun _ => 0)), .inl (0, 31, (fun _ => 0)), .inl (0, 31, (fun _ => 0)), .inl (0, 31, (fun _ => 0)), .inl (0, 31, (fun _ => 0)), .inl (0, 31, (fun _ => 0)), .inl (0, 31, (fun _ => 0)), .inl (0, 31, (fun _ => 0)), .inl (0, 31, (fun _ => 0)), .inl (0, 31, (fun _ => 0)), .inl (0, 31, (fun _ => 0))], 0, 0)
  refine ar_iinc (v := 6) (ls' := [some (.ref 42), some (.int 6)]) (q := 53) rfl rfl rfl rfl rfl rfl ?_
  refine ar_goto (t := 34) rfl rfl ?_
  refine ar_iload_n (j := 1) (q := 35) rfl rfl rfl rfl ?_
  refine ar_bipush (v := 20) (q := 37) rfl rfl rfl ?_
  refine ar_br (t := 56) (q := 40) am_c_ge rfl rfl rfl (fun c => absurd c (by decide)) (fun _ => ?_)
  refine ar_aload_n (j := 0) (q := 41) rfl rfl rfl rfl ?_
  refine ar_getf (v := .ref 45) (q := 44) rfl rfl (gA (j := 0) hp rfl rfl) rfl rfl ?_
  refine ar_iload_n (j := 1) (q := 45) rfl rfl rfl rfl ?_
  refine ar_aald (c2 := 52) (q := 46) rfl (gA (j := 3) hp rfl rfl) rfl rfl rfl ?_
  refine ar_iconst (v := 1) (q := 47) rfl rfl rfl ?_
  refine ar_invs (as := [.ref 52, .int 1]) (rest := []) (b2 := (0, 0)) (b3 := (0, 0)) (q := 50) rfl rfl rfl rfl rfl rfl rfl rfl rfl ?_
  refine ok_fill (by omega) (gA (j := 10) hp rfl rfl) (by decide) ?_
  dsimp only
  rw [sA (j := 10) (own2 := [.inr (.inr (.inr (2, [.int 0, .ref 43, .ref 44, .ref 45]))), .inl (0, 20, (fun _ => 0)), .inl (0, 20, (fun _ => 0)), .inr (.inr (.inl (20, fun i => some (46 + i)))), .inl (0, 31, (am_fi (fun _ => 0) 1 31)), .inl (0, 31, (am_fi (fun _ => 0) 1 31)), .inl (0, 31, (am_fi (fun _ => 0) 1 31)), .inl (0, 31, (am_fi (fun _ => 0) 1 31)), .inl (0, 31, (am_fi (fun _ => 0) 1 31)), .inl (0, 31, (am_fi (fun _ => 0) 1 31)), .inl (0, 31, (am_fi (fun _ => 0) 1 31)), .inl (0, 31, (fun _ => 0)), .inl (0, 31, (fun _ => 0)), .inl (0, 31, (fun _ => 0)), .inl (0, 31, (fun _ => 0)), .inl (0, 31, (fun _ => 0)), .inl (0, 31, (fun _ => 0)), .inl (0, 31, (fun _ => 0)), .inl (0, 31, (fun _ => 0)), .inl (0, 31, (fun _ => 0)), .inl (0, 31, (fun _ => 0)), .inl (0, 31, (fun _ => 0)), .inl (0, 31, (fun _ => 0)), .inl (0, 31, (fun _ => 0))]) hp rfl rfl]
  show am_Run am_X0 (am_meth d) 48 R 50 [some (.ref 42), some (.int 6)] [] (pre ++ [.inr (.inr (.inr (2, [.int 0, .ref 43, .ref 44, .ref 45]))), .inl (0, 20, (fun _ => 0)), .inl (0, 20, (fun _ => 0)), .inr (.inr (.inl (20, fun i => some (46 + i)))), .inl (0, 31, (am_fi (fun _ => 0) 1 31)), .inl (0, 31, (am_fi (fun _ => 0) 1 31)), .inl (0, 31, (am_fi (fun _ => 0) 1 31)), .inl (0, 31, (am_fi (fun _ => 0) 1 31)), .inl (0, 31, (am_fi (fun _ => 0) 1 31)), .inl (0, 31, (am_fi (fun _ => 0) 1 31)), .inl (0, 31, (am_fi (fun _ => 0) 1 31)), .inl (0, 31, (fun _ => 0)), .inl (0, 31, (fun _ => 0)), .inl (0, 31, (fun _ => 0)), .inl (0, 31, (fun _ => 0)), .inl (0, 31, (fun _ => 0)), .inl (0, 31, (fun _ => 0)), .inl (0, 31, (fun _ => 0)), .inl (0, 31, (fun _ => 0)), .inl (0, 31, (fun _ => 0)), .inl (0, 31, (fun _ => 0)), .inl (0, 31, (fun _ => 0)), .inl (0, 31, (fun _ => 0)), .inl (0, 31, (fun _ => 0))], 0, 0)
  refine ar_iinc (v := 7) (ls' := [some (.ref 42), some (.int 7)]) (q := 53) rfl rfl rfl rfl rfl rfl ?_
  refine ar_goto (t := 34) rfl rfl ?_
  refine ar_iload_n (j := 1) (q := 35) rfl rfl rfl rfl ?_
  refine ar_bipush (v := 20) (q := 37) rfl rfl rfl ?_
  refine ar_br (t := 56) (q := 40) am_c_ge rfl rfl rfl (fun c => absurd c (by decide)) (fun _ => ?_)
  refine ar_aload_n (j := 0) (q := 41) rfl rfl rfl rfl ?_
  refine ar_getf (v := .ref 45) (q := 44) rfl rfl (gA (j := 0) hp rfl rfl) rfl rfl ?_
  refine ar_iload_n (j := 1) (q := 45) rfl rfl rfl rfl ?_
  refine ar_aald (c2 := 53) (q := 46) rfl (gA (j := 3) hp rfl rfl) rfl rfl rfl ?_
  refine ar_iconst (v := 1) (q := 47) rfl rfl rfl ?_
  refine ar_invs (as := [.ref 53, .int 1]) (rest := []) (b2 := (0, 0)) (b3 := (0, 0)) (q := 50) rfl rfl rfl rfl rfl rfl rfl rfl rfl ?_
  refine ok_fill (by omega) (gA (j := 11) hp rfl rfl) (by decide) ?_
  dsimp only
  rw [sA (j := 11) (own2 := [.inr (.inr (.inr (2, [.int 0, .ref 43, .ref 44, .ref 45]))), .inl (0, 20, (fun _ => 0)), .inl (0, 20, (fun _ => 0)), .inr (.inr (.inl (20, fun i => some (46 + i)))), .inl (0, 31, (am_fi (fun _ => 0) 1 31)), .inl (0, 31, (am_fi (fun _ => 0) 1 31)), .inl (0, 31, (am_fi (fun _ => 0) 1 31)), .inl (0, 31, (am_fi (fun _ => 0) 1 31)), .inl (0, 31, (am_fi (fun _ => 0) 1 31)), .inl (0, 31, (am_fi (fun _ => 0) 1 31)), .inl (0, 31, (am_fi (fun _ => 0) 1 31)), .inl (0, 31, (am_fi (fun _ => 0) 1 31)), .inl (0, 31, (fun _ => 0)), .inl (0, 31, (fun _ => 0)), .inl (0, 31, (fun _ => 0)), .inl (0, 31, (fun _ => 0)), .inl (0, 31, (fun _ => 0)), .inl (0, 31, (fun _ => 0)), .inl (0, 31, (fun _ => 0)), .inl (0, 31, (fun _ => 0)), .inl (0, 31, (fun _ => 0)), .inl (0, 31, (fun _ => 0)), .inl (0, 31, (fun _ => 0)), .inl (0, 31, (fun _ => 0))]) hp rfl rfl]
  show am_Run am_X0 (am_meth d) 48 R 50 [some (.ref 42), some (.int 7)] [] (pre ++ [.inr (.inr (.inr (2, [.int 0, .ref 43, .ref 44, .ref 45]))), .inl (0, 20, (fun _ => 0)), .inl (0, 20, (fun _ => 0)), .inr (.inr (.inl (20, fun i => some (46 + i)))), .inl (0, 31, (am_fi (fun _ => 0) 1 31)), .inl (0, 31, (am_fi (fun _ => 0) 1 31)), .inl (0, 31, (am_fi (fun _ => 0) 1 31)), .inl (0, 31, (am_fi (fun _ => 0) 1 31)), .inl (0, 31, (am_fi (fun _ => 0) 1 31)), .inl (0, 31, (am_fi (fun _ => 0) 1 31)), .inl (0, 31, (am_fi (fun _ => 0) 1 31)), .inl (0, 31, (am_fi (fun _ => 0) 1 31)), .inl (0, 31, (fun _ => 0)), .inl (0, 31, (fun _ => 0)), .inl (0, 31, (fun _ => 0)), .inl (0, 31, (fun _ => 0)), .inl (0, 31, (fun _ => 0)), .inl (0, 31, (fun _ => 0)), .inl (0, 31, (fun _ => 0)), .inl (0, 31, (fun _ => 0)), .inl (0, 31, (fun _ => 0)), .inl (0, 31, (fun _ => 0)), .inl (0, 31, (fun _ => 0)), .inl (0, 31, (fun _ => 0))], 0, 0)
  refine ar_iinc (v := 8) (ls' := [some (.ref 42), some (.int 8)]) (q := 53) rfl rfl rfl rfl rfl rfl ?_
  refine ar_goto (t := 34) rfl rfl ?_
  refine ar_iload_n (j := 1) (q := 35) rfl rfl rfl rfl ?_
  refine ar_bipush (v := 20) (q := 37) rfl rfl rfl ?_
  refine ar_br (t := 56) (q := 40) am_c_ge rfl rfl rfl (fun c => absurd c (by decide)) (fun _ => ?_)
  refine ar_aload_n (j := 0) (q := 41) rfl rfl rfl rfl ?_
  refine ar_getf (v := .ref 45) (q := 44) rfl rfl (gA (j := 0) hp rfl rfl) rfl rfl ?_
  refine ar_iload_n (j := 1) (q := 45) rfl rfl rfl rfl ?_
  refine ar_aald (c2 := 54) (q := 46) rfl (gA (j := 3) hp rfl rfl) rfl rfl rfl ?_
  refine ar_iconst (v := 1) (q := 47) rfl rfl rfl ?_
  refine ar_invs (as := [.ref 54, .int 1]) (rest := []) (b2 := (0, 0)) (b3 := (0, 0)) (q := 50) rfl rfl rfl rfl rfl rfl rfl rfl rfl ?_
  refine ok_fill (by omega) (gA (j := 12) hp rfl rfl) (by decide) ?_
  dsimp only
  rw [sA (j := 12) (own2 := [.inr (.inr (.inr (2, [.int 0, .ref 43, .ref 44, .ref 45]))), .inl (0, 20, (fun _ => 0)), .inl (0, 20, (fun _ => 0)), .inr (.inr (.inl (20, fun i => some (46 + i)))), .inl (0, 31, (am_fi (fun _ => 0) 1 31)), .inl (0, 31, (am_fi (fun _ => 0) 1 31)), .inl (0, 31, (am_fi (fun _ => 0) 1 31)), .inl (0, 31, (am_fi (fun _ => 0) 1 31)), .inl (0, 31, (am_fi (fun _ => 0) 1 31)), .inl (0, 31, (am_fi (fun _ => 0) 1 31)), .inl (0, 31, (am_fi (fun _ => 0) 1 31)), .inl (0, 31, (am_fi (fun _ => 0) 1 31)), .inl (0, 31, (am_fi (fun _ => 0) 1 31)), .inl (0, 31, (fun _ => 0)), .inl (0, 31, (fun _ => 0)), .inl (0, 31, (fun _ => 0)), .inl (0, 31, (fun _ => 0)), .inl (0, 31, (fun _ => 0)), .inl (0, 31, (fun _ => 0)), .inl (0, 31, (fun _ => 0)), .inl (0, 31, (fun _ => 0)), .inl (0, 31, (fun _ => 0)), .inl (0, 31, (fun _ => 0)), .inl (0, 31, (fun _ => 0))]) hp rfl rfl]
  show am_Run am_X0 (am_meth d) 48 R 50 [some (.ref 42), some (.int 8)] [] (pre ++ [.inr (.inr (.inr (2, [.int 0, .ref 43, .ref 44, .ref 45]))), .inl (0, 20, (fun _ => 0)), .inl (0, 20, (fun _ => 0)), .inr (.inr (.inl (20, fun i => some (46 + i)))), .inl (0, 31, (am_fi (fun _ => 0) 1 31)), .inl (0, 31, (am_fi (fun _ => 0) 1 31)), .inl (0, 31, (am_fi (fun _ => 0) 1 31)), .inl (0, 31, (am_fi (fun _ => 0) 1 31)), .inl (0, 31, (am_fi (fun _ => 0) 1 31)), .inl (0, 31, (am_fi (fun _ => 0) 1 31)), .inl (0, 31, (am_fi (fun _ => 0) 1 31)), .inl (0, 31, (am_fi (fun _ => 0) 1 31)), .inl (0, 31, (am_fi (fun _ => 0) 1 31)), .inl (0, 31, (fun _ => 0)), .inl (0, 31, (fun _ => 0)), .inl (0, 31, (fun _ => 0)), .inl (0, 31, (fun _ => 0)), .inl (0, 31, (fun _ => 0)), .inl (0, 31, (fun _ => 0)), .inl (0, 31, (fun _ => 0)), .inl (0, 31, (fun _ => 0)), .inl (0, 31, (fun _ => 0)), .inl (0, 31, (fun _ => 0)), .inl (0, 31, (fun _ => 0))], 0, 0)
  refine ar_iinc (v := 9) (ls' := [some (.ref 42), some (.int 9)]) (q := 53) rfl rfl rfl rfl rfl rfl ?_
  refine ar_goto (t := 34) rfl rfl ?_
  refine ar_iload_n (j := 1) (q := 35) rfl rfl rfl rfl ?_
  refine ar_bipush (v := 20) (q := 37) rfl rfl rfl ?_
  refine ar_br (t := 56) (q := 40) am_c_ge rfl rfl rfl (fun c => absurd c (by decide)) (fun _ => ?_)
  refine ar_aload_n (j := 0) (q := 41) rfl rfl rfl rfl ?_
  refine ar_getf (v := .ref 45) (q := 44) rfl rfl (gA (j := 0) hp rfl rfl) rfl rfl ?_
  refine ar_iload_n (j := 1) (q := 45) rfl rfl rfl rfl ?_
  refine ar_aald (c2 := 55) (q := 46) rfl (gA (j := 3) hp rfl rfl) rfl rfl rfl ?_
  refine ar_iconst (v := 1) (q := 47) rfl rfl rfl ?_
  refine ar_invs (as := [.ref 55, .int 1]) (rest := []) (b2 := (0, 0)) (b3 := (0, 0)) (q := 50) rfl rfl rfl rfl rfl rfl rfl rfl rfl ?_
  refine ok_fill (by omega) (gA (j := 13) hp rfl rfl) (by decide) ?_
  dsimp only
  rw [sA (j := 13) (own2 := [.inr (.inr (.inr (2, [.int 0, .ref 43, .ref 44, .ref 45]))), .inl (0, 20, (fun _ => 0)), .inl (0, 20, (fun _ => 0)), .inr (.inr (.inl (20, fun i => some (46 + i)))), .inl (0, 31, (am_fi (fun _ => 0) 1 31)), .inl (0, 31, (am_fi (fun _ => 0) 1 31)), .inl (0, 31, (am_fi (fun _ => 0) 1 31)), .inl (0, 31, (am_fi (fun _ => 0) 1 31)), .inl (0, 31, (am_fi (fun _ => 0) 1 31)), .inl (0, 31, (am_fi (fun _ => 0) 1 31)), .inl (0, 31, (am_fi (fun _ => 0) 1 31)), .inl (0, 31, (am_fi (fun _ => 0) 1 31)), .inl (0, 31, (am_fi (fun _ => 0) 1 31)), .inl (0, 31, (am_fi (fun _ => 0) 1 31)), .inl (0, 31, (fun _ => 0)), .inl (0, 31, (fun _ => 0)), .inl (0, 31, (fun _ => 0)), .inl (0, 31, (fun _ => 0)), .inl (0, 31, (fun _ => 0)), .inl (0, 31, (fun _ => 0)), .inl (0, 31, (fun _ => 0)), .inl (0, 31, (fun _ => 0)), .inl (0, 31, (fun _ => 0)), .inl (0, 31, (fun _ => 0))]) hp rfl rfl]
  show am_Run am_X0 (am_meth d) 48 R 50 [some (.ref 42), some (.int 9)] [] (pre ++ [.inr (.inr (.inr (2, [.int 0, .ref 43, .ref 44, .ref 45]))), .inl (0, 20, (fun _ => 0)), .inl (0, 20, (fun _ => 0)), .inr (.inr (.inl (20, fun i => some (46 + i)))), .inl (0, 31, (am_fi (fun _ => 0) 1 31)), .inl (0, 31, (am_fi (fun _ => 0) 1 31)), .inl (0, 31, (am_fi (fun _ => 0) 1 31)), .inl (0, 31, (am_fi (fun _ => 0) 1 31)), .inl (0, 31, (am_fi (fun _ => 0) 1 31)), .inl (0, 31, (am_fi (fun _ => 0) 1 31)), .inl (0, 31, (am_fi (fun _ => 0) 1 31)), .inl (0, 31, (am_fi (fun _ => 0) 1 31)), .inl (0, 31, (am_fi (fun _ => 0) 1 31)), .inl (0, 31, (am_fi (fun _ => 0) 1 31)), .inl (0, 31, (fun _ => 0)), .inl (0, 31, (fun _ => 0)), .inl (0, 31, (fun _ => 0)), .inl (0, 31, (fun _ => 0)), .inl (0, 31, (fun _ => 0)), .inl (0, 31, (fun _ => 0)), .inl (0, 31, (fun _ => 0)), .inl (0, 31, (fun _ => 0)), .inl (0, 31, (fun _ => 0)), .inl (0, 31, (fun _ => 0))], 0, 0)
  refine ar_iinc (v := 10) (ls' := [some (.ref 42), some (.int 10)]) (q := 53) rfl rfl rfl rfl rfl rfl ?_
  refine ar_goto (t := 34) rfl rfl ?_
  refine ar_iload_n (j := 1) (q := 35) rfl rfl rfl rfl ?_
  refine ar_bipush (v := 20) (q := 37) rfl rfl rfl ?_
  refine ar_br (t := 56) (q := 40) am_c_ge rfl rfl rfl (fun c => absurd c (by decide)) (fun _ => ?_)
  refine ar_aload_n (j := 0) (q := 41) rfl rfl rfl rfl ?_
  refine ar_getf (v := .ref 45) (q := 44) rfl rfl (gA (j := 0) hp rfl rfl) rfl rfl ?_
  refine ar_iload_n (j := 1) (q := 45) rfl rfl rfl rfl ?_
  refine ar_aald (c2 := 56) (q := 46) rfl (gA (j := 3) hp rfl rfl) rfl rfl rfl ?_
  refine ar_iconst (v := 1) (q := 47) rfl rfl rfl ?_
  refine ar_invs (as := [.ref 56, .int 1]) (rest := []) (b2 := (0, 0)) (b3 := (0, 0)) (q := 50) rfl rfl rfl rfl rfl rfl rfl rfl rfl ?_
  refine ok_fill (by omega) (gA (j := 14) hp rfl rfl) (by decide) ?_
  dsimp only
  rw [sA (j := 14) (own2 := [.inr (.inr (.inr (2, [.int 0, .ref 43, .ref 44, .ref 45]))), .inl (0, 20, (fun _ => 0)), .inl (0, 20, (fun _ => 0)), .inr (.inr (.inl (20, fun i => some (46 + i)))), .inl (0, 31, (am_fi (fun _ => 0) 1 31)), .inl (0, 31, (am_fi (fun _ => 0) 1 31)), .inl (0, 31, (am_fi (fun _ => 0) 1 31)), .inl (0, 31, (am_fi (fun _ => 0) 1 31)), .inl (0, 31, (am_fi (fun _ => 0) 1 31)), .inl (0, 31, (am_fi (fun _ => 0) 1 31)), .inl (0, 31, (am_fi (fun _ => 0) 1 31)), .inl (0, 31, (am_fi (fun _ => 0) 1 31)), .inl (0, 31, (am_fi (fun _ => 0) 1 31)), .inl (0, 31, (am_fi (fun _ => 0) 1 31)), .inl (0, 31, (am_fi (fun _ => 0) 1 31)), .inl (0, 31, (fun _ => 0)), .inl (0, 31, (fun _ => 0)), .inl (0, 31, (fun _ => 0)), .inl (0, 31, (fun _ => 0)), .inl (0, 31, (fun _ => 0)), .inl (0, 31, (fun _ => 0)), .inl (0, 31, (fun _ => 0)), .inl (0, 31, (fun _ => 0)), .inl (0, 31, (fun _ => 0))]) hp rfl rfl]
  show am_Run am_X0 (am_meth d) 48 R 50 [some (.ref 42), some (.int 10)] [] (pre ++ [.inr (.inr (.inr (2, [.int 0, .ref 43, .ref 44, .ref 45]))), .inl (0, 20, (fun _ => 0)), .inl (0, 20, (fun _ => 0)), .inr (.inr (.inl (20, fun i => some (46 + i)))), .inl (0, 31, (am_fi (fun _ => 0) 1 31)), .inl (0, 31, (am_fi (fun _ => 0) 1 31)), .inl (0, 31, (am_fi (fun _ => 0) 1 31)), .inl (0, 31, (am_fi (fun _ => 0) 1 31)), .inl (0, 31, (am_fi (fun _ => 0) 1 31)), .inl (0, 31, (am_fi (fun _ => 0) 1 31)), .inl (0, 31, (am_fi (fun _ => 0) 1 31)), .inl (0, 31, (am_fi (fun _ => 0) 1 31)), .inl (0, 31, (am_fi (fun _ => 0) 1 31)), .inl (0, 31, (am_fi (fun _ => 0) 1 31)), .inl (0, 31, (am_fi (fun _ => 0) 1 31)), .inl (0, 31, (fun _ => 0)), .inl (0, 31, (fun _ => 0)), .inl (0, 31, (fun _ => 0)), .inl (0, 31, (fun _ => 0)), .inl (0, 31, (fun _ => 0)), .inl (0, 31, (fun _ => 0)), .inl (0, 31, (fun _ => 0)), .inl (0, 31, (fun _ => 0)), .inl (0, 31, (fun _ => 0))], 0, 0)
  refine ar_iinc (v := 11) (ls' := [some (.ref 42), some (.int 11)]) (q := 53) rfl rfl rfl rfl rfl rfl ?_
  refine ar_goto (t := 34) rfl rfl ?_
  refine ar_iload_n (j := 1) (q := 35) rfl rfl rfl rfl ?_
  refine ar_bipush (v := 20) (q := 37) rfl rfl rfl ?_
  refine ar_br (t := 56) (q := 40) am_c_ge rfl rfl rfl (fun c => absurd c (by decide)) (fun _ => ?_)
  refine ar_aload_n (j := 0) (q := 41) rfl rfl rfl rfl ?_
  refine ar_getf (v := .ref 45) (q := 44) rfl rfl (gA (j := 0) hp rfl rfl) rfl rfl ?_
  refine ar_iload_n (j := 1) (q := 45) rfl rfl rfl rfl ?_
  refine ar_aald (c2 := 57) (q := 46) rfl (gA (j := 3) hp rfl rfl) rfl rfl rfl ?_
  refine ar_iconst (v := 1) (q := 47) rfl rfl rfl ?_
  refine ar_invs (as := [.ref 57, .int 1]) (rest := []) (b2 := (0, 0)) (b3 := (0, 0)) (q := 50) rfl rfl rfl rfl rfl rfl rfl rfl rfl ?_
  refine ok_fill (by omega) (gA (j := 15) hp rfl rfl) (by decide) ?_
  dsimp only
  rw [sA (j := 15) (own2 := [.inr (.inr (.inr (2, [.int 0, .ref 43, .ref 44, .ref 45]))), .inl (0, 20, (fun _ => 0)), .inl (0, 20, (fun _ => 0)), .inr (.inr (.inl (20, fun i => some (46 + i)))), .inl (0, 31, (am_fi (fun _ => 0) 1 31)), .inl (0, 31, (am_fi (fun _ => 0) 1 31)), .inl (0, 31, (am_fi (fun _ => 0) 1 31)), .inl (0, 31, (am_fi (fun _ => 0) 1 31)), .inl (0, 31, (am_fi (fun _ => 0) 1 31)), .inl (0, 31, (am_fi (fun _ => 0) 1 31)), .inl (0, 31, (am_fi (fun _ => 0) 1 31)), .inl (0, 31, (am_fi (fun _ => 0) 1 31)), .inl (0, 31, (am_fi (fun _ => 0) 1 31)), .inl (0, 31, (am_fi (fun _ => 0) 1 31)), .inl (0, 31, (am_fi (fun _ => 0) 1 31)), .inl (0, 31, (am_fi (fun _ => 0) 1 31)), .inl (0, 31, (fun _ => 0)), .inl (0, 31, (fun _ => 0)), .inl (0, 31, (fun _ => 0)), .inl (0, 31, (fun _ => 0)), .inl (0, 31, (fun _ => 0)), .inl (0, 31, (fun _ => 0)), .inl (0, 31, (fun _ => 0)), .inl (0, 31, (fun _ => 0))]) hp rfl rfl]
  show am_Run am_X0 (am_meth d) 48 R 50 [some (.ref 42), some (.int 11)] [] (pre ++ [.inr (.inr (.inr (2, [.int 0, .ref 43, .ref 44, .ref 45]))), .inl (0, 20, (fun _ => 0)), .inl (0, 20, (fun _ => 0)), .inr (.inr (.inl (20, fun i => some (46 + i)))), .inl (0, 31, (am_fi (fun _ => 0) 1 31)), .inl (0, 31, (am_fi (fun _ => 0) 1 31)), .inl (0, 31, (am_fi (fun _ => 0) 1 31)), .inl (0, 31, (am_fi (fun _ => 0) 1 31)), .inl (0, 31, (am_fi (fun _ => 0) 1 31)), .inl (0, 31, (am_fi (fun _ => 0) 1 31)), .inl (0, 31, (am_fi (fun _ => 0) 1 31)), .inl (0, 31, (am_fi (fun _ => 0) 1 31)), .inl (0, 31, (am_fi (fun _ => 0) 1 31)), .inl (0, 31, (am_fi (fun _ => 0) 1 31)), .inl (0, 31, (am_fi (fun _ => 0) 1 31)), .inl (0, 31, (am_fi (fun _ => 0) 1 31)), .inl (0, 31, (fun _ => 0)), .inl (0, 31, (fun _ => 0)), .inl (0, 31, (fun _ => 0)), .inl (0, 31, (fun _ => 0)), .inl (0, 31, (fun _ => 0)), .inl (0, 31, (fun _ => 0)), .inl (0, 31, (fun _ => 0)), .inl (0, 31, (fun _ => 0))], 0, 0)
  refine ar_iinc (v := 12) (ls' := [some (.ref 42), some (.int 12)]) (q := 53) rfl rfl rfl rfl rfl rfl ?_
  refine ar_goto (t := 34) rfl rfl ?_
  refine ar_iload_n (j := 1) (q := 35) rfl rfl rfl rfl ?_
  refine ar_bipush (v := 20) (q := 37) rfl rfl rfl ?_
  refine ar_br (t := 56) (q := 40) am_c_ge rfl rfl rfl (fun c => absurd c (by decide)) (fun _ => ?_)
  refine ar_aload_n (j := 0) (q := 41) rfl rfl rfl rfl ?_
  refine ar_getf (v := .ref 45) (q := 44) rfl rfl (gA (j := 0) hp rfl rfl) rfl rfl ?_
  refine ar_iload_n (j := 1) (q := 45) rfl rfl rfl rfl ?_
  refine ar_aald (c2 := 58) (q := 46) rfl (gA (j := 3) hp rfl rfl) rfl rfl rfl ?_
  refine ar_iconst (v := 1) (q := 47) rfl rfl rfl ?_
  refine ar_invs (as := [.ref 58, .int 1]) (rest := []) (b2 := (0, 0)) (b3 := (0, 0)) (q := 50) rfl rfl rfl rfl rfl rfl rfl rfl rfl ?_
  refine ok_fill (by omega) (gA (j := 16) hp rfl rfl) (by decide) ?_
  dsimp only
  rw [sA (j := 16) (own2 := [.inr (.inr (.inr (2, [.int 0, .ref 43, .ref 44, .ref 45]))), .inl (0, 20, (fun _ => 0)), .inl (0, 20, (fun _ => 0)), .inr (.inr (.inl (20, fun i => some (46 + i)))), .inl (0, 31, (am_fi (fun _ => 0) 1 31)), .inl (0, 31, (am_fi (fun _ => 0) 1 31)), .inl (0, 31, (am_fi (fun _ => 0) 1 31)), .inl (0, 31, (am_fi (fun _ => 0) 1 31)), .inl (0, 31, (am_fi (fun _ => 0) 1 31)), .inl (0, 31, (am_fi (fun _ => 0) 1 31)), .inl (0, 31, (am_fi (fun _ => 0) 1 31)), .inl (0, 31, (am_fi (fun _ => 0) 1 31)), .inl (0, 31, (am_fi (fun _ => 0) 1 31)), .inl (0, 31, (am_fi (fun _ => 0) 1 31)), .inl (0, 31, (am_fi (fun _ => 0) 1 31)), .inl (0, 31, (am_fi (fun _ => 0) 1 31)), .inl (0, 31, (am_fi (fun _ => 0) 1 31)), .inl (0, 31, (fun _ => 0)), .inl (0, 31, (fun _ => 0)), .inl (0, 31, (fun _ => 0)), .inl (0, 31, (fun _ => 0)), .inl (0, 31, (fun _ => 0)), .inl (0, 31, (fun _ => 0)), .inl (0, 31, (fun _ => 0))]) hp rfl rfl]
  show am_Run am_X0 (am_meth d) 48 R 50 [some (.ref 42), some (.int 12)] [] (pre ++ [.inr (.inr (.inr (2, [.int 0, .ref 43, .ref 44, .ref 45]))), .inl (0, 20, (fun _ => 0)), .inl (0, 20, (fun _ => 0)), .inr (.inr (.inl (20, fun i => some (46 + i)))), .inl (0, 31, (am_fi (fun _ => 0) 1 31)), .inl (0, 31, (am_fi (fun _ => 0) 1 31)), .inl (0, 31, (am_fi (fun _ => 0) 1 31)), .inl (0, 31, (am_fi (fun _ => 0) 1 31)), .inl (0, 31, (am_fi (fun _ => 0) 1 31)), .inl (0, 31, (am_fi (fun _ => 0) 1 31)), .inl (0, 31, (am_fi (fun _ => 0) 1 31)), .inl (0, 31, (am_fi (fun _ => 0) 1 31)), .inl (0, 31, (am_fi (fun _ => 0) 1 31)), .inl (0, 31, (am_fi (fun _ => 0) 1 31)), .inl (0, 31, (am_fi (fun _ => 0) 1 31)), .inl (0, 31, (am_fi (fun _ => 0) 1 31)), .inl (0, 31, (am_fi (fun _ => 0) 1 31)), .inl (0, 31, (fun _ => 0)), .inl (0, 31, (fun _ => 0)), .inl (0, 31, (fun _ => 0)), .inl (0, 31, (fun _ => 0)), .inl (0, 31, (fun _ => 0)), .inl (0, 31, (fun _ => 0)), .inl (0, 31, (fun _ => 0))], 0, 0)
  refine ar_iinc (v := 13) (ls' := [some (.ref 42), some (.int 13)]) (q := 53) rfl rfl rfl rfl rfl rfl ?_
  refine ar_goto (t := 34) rfl rfl ?_
  refine ar_iload_n (j := 1) (q := 35) rfl rfl rfl rfl ?_
  refine ar_bipush (v := 20) (q := 37) rfl rfl rfl ?_
  refine ar_br (t := 56) (q := 40) am_c_ge rfl rfl rfl (fun c => absurd c (by decide)) (fun _ => ?_)
  refine ar_aload_n (j := 0) (q := 41) rfl rfl rfl rfl ?_
  refine ar_getf (v := .ref 45) (q := 44) rfl rfl (gA (j := 0) hp rfl rfl) rfl rfl ?_
  refine ar_iload_n (j := 1) (q := 45) rfl rfl rfl rfl ?_
  refine ar_aald (c2 := 59) (q := 46) rfl (gA (j := 3) hp rfl rfl) rfl rfl rfl ?_
  refine ar_iconst (v := 1) (q := 47) rfl rfl rfl ?_
  refine ar_invs (as := [.ref 59, .int 1]) (rest := []) (b2 := (0, 0)) (b3 := (0, 0)) (q := 50) rfl rfl rfl rfl rfl rfl rfl rfl rfl ?_
  refine ok_fill (by omega) (gA (j := 17) hp rfl rfl) (by decide) ?_
  dsimp only
  rw [sA (j := 17) (own2 := [.inr (.inr (.inr (2, [.int 0, .ref 43, .ref 44, .ref 45]))), .inl (0, 20, (fun _ => 0)), .inl (0, 20, (fun _ => 0)), .inr (.inr (.inl (20, fun i => some (46 + i)))), .inl (0, 31, (am_fi (fun _ => 0) 1 31)), .inl (0, 31, (am_fi (fun _ => 0) 1 31)), .inl (0, 31, (am_fi (fun _ => 0) 1 31)), .inl (0, 31, (am_fi (fun _ => 0) 1 31)), .inl (0, 31, (am_fi (fun _ => 0) 1 31)), .inl (0, 31, (am_fi (fun _ => 0) 1 31)), .inl (0, 31, (am_fi (fun _ => 0) 1 31)), .inl (0, 31, (am_fi (fun _ => 0) 1 31)), .inl (0, 31, (am_fi (fun _ => 0) 1 31)), .inl (0, 31, (am_fi (fun _ => 0) 1 31)), .inl (0, 31, (am_fi (fun _ => 0) 1 31)), .inl (0, 31, (am_fi (fun _ => 0) 1 31)), .inl (0, 31, (am_fi (fun _ => 0) 1 31)), .inl (0, 31, (am_fi (fun _ => 0) 1 31)), .inl (0, 31, (fun _ => 0)), .inl (0, 31, (fun _ => 0)), .inl (0, 31, (fun _ => 0)), .inl (0, 31, (fun _ => 0)), .inl (0, 31, (fun _ => 0)), .inl (0, 31, (fun _ => 0))]) hp rfl rfl]
  show am_Run am_X0 (am_meth d) 48 R 50 [some (.ref 42), some (.int 13)] [] (pre ++ [.inr (.inr (.inr (2, [.int 0, .ref 43, .ref 44, .ref 45]))), .inl (0, 20, (fun _ => 0)), .inl (0, 20, (fun _ => 0)), .inr (.inr (.inl (20, fun i => some (46 + i)))), .inl (0, 31, (am_fi (fun _ => 0) 1 31)), .inl (0, 31, (am_fi (fun _ => 0) 1 31)), .inl (0, 31, (am_fi (fun _ => 0) 1 31)), .inl (0, 31, (am_fi (fun _ => 0) 1 31)), .inl (0, 31, (am_fi (fun _ => 0) 1 31)), .inl (0, 31, (am_fi (fun _ => 0) 1 31)), .inl (0, 31, (am_fi (fun _ => 0) 1 31)), .inl (0, 31, (am_fi (fun _ => 0) 1 31)), .inl (0, 31, (am_fi (fun _ => 0) 1 31)), .inl (0, 31, (am_fi (fun _ => 0) 1 31)), .inl (0, 31, (am_fi (fun _ => 0) 1 31)), .inl (0, 31, (am_fi (fun _ => 0) 1 31)), .inl (0, 31, (am_fi (fun _ => 0) 1 31)), .inl (0, 31, (am_fi (fun _ => 0) 1 31)), .inl (0, 31, (fun _ => 0)), .inl (0, 31, (fun _ => 0)), .inl (0, 31, (fun _ => 0)), .inl (0, 31, (fun _ => 0)), .inl (0, 31, (fun _ => 0)), .inl (0, 31, (fun _ => 0))], 0, 0)
  refine ar_iinc (v := 14) (ls' := [some (.ref 42), some (.int 14)]) (q := 53) rfl rfl rfl rfl rfl rfl ?_
  refine ar_goto (t := 34) rfl rfl ?_
  refine ar_iload_n (j := 1) (q := 35) rfl rfl rfl rfl ?_
  refine ar_bipush (v := 20) (q := 37) rfl rfl rfl ?_
  refine ar_br (t := 56) (q := 40) am_c_ge rfl rfl rfl (fun c => absurd c (by decide)) (fun _ => ?_)
  refine ar_aload_n (j := 0) (q := 41) rfl rfl rfl rfl ?_
  refine ar_getf (v := .ref 45) (q := 44) rfl rfl (gA (j := 0) hp rfl rfl) rfl rfl ?_
  refine ar_iload_n (j := 1) (q := 45) rfl rfl rfl rfl ?_
  refine ar_aald (c2 := 60) (q := 46) rfl (gA (j := 3) hp rfl rfl) rfl rfl rfl ?_
  refine ar_iconst (v := 1) (q := 47) rfl rfl rfl ?_
  refine ar_invs (as := [.ref 60, .int 1]) (rest := []) (b2 := (0, 0)) (b3 := (0, 0)) (q := 50) rfl rfl rfl rfl rfl rfl rfl rfl rfl ?_
  refine ok_fill (by omega) (gA (j := 18) hp rfl rfl) (by decide) ?_
  dsimp only
  rw [sA (j := 18) (own2 := [.inr (.inr (.inr (2, [.int 0, .ref 43, .ref 44, .ref 45]))), .inl (0, 20, (fun _ => 0)), .inl (0, 20, (fun _ => 0)), .inr (.inr (.inl (20, fun i => some (46 + i)))), .inl (0, 31, (am_fi (fun _ => 0) 1 31)), .inl (0, 31, (am_fi (fun _ => 0) 1 31)), .inl (0, 31, (am_fi (fun _ => 0) 1 31)), .inl (0, 31, (am_fi (fun _ => 0) 1 31)), .inl (0, 31, (am_fi (fun _ => 0) 1 31)), .inl (0, 31, (am_fi (fun _ => 0) 1 31)), .inl (0, 31, (am_fi (fun _ => 0) 1 31)), .inl (0, 31, (am_fi (fun _ => 0) 1 31)), .inl (0, 31, (am_fi (fun _ => 0) 1 31)), .inl (0, 31, (am_fi (fun _ => 0) 1 31)), .inl (0, 31, (am_fi (fun _ => 0) 1 31)), .inl (0, 31, (am_fi (fun _ => 0) 1 31)), .inl (0, 31, (am_fi (fun _ => 0) 1 31)), .inl (0, 31, (am_fi (fun _ => 0) 1 31)), .inl (0, 31, (am_fi (fun _ => 0) 1 31)), .inl (0, 31, (fun _ => 0)), .inl (0, 31, (fun _ => 0)), .inl (0, 31, (fun _ => 0)), .inl (0, 31, (fun _ => 0)), .inl (0, 31, (fun _ => 0))]) hp rfl rfl]
  show am_Run am_X0 (am_meth d) 48 R 50 [some (.ref 42), some (.int 14)] [] (pre ++ [.inr (.inr (.inr (2, [.int 0, .ref 43, .ref 44, .ref 45]))), .inl (0, 20, (fun _ => 0)), .inl (0, 20, (fun _ => 0)), .inr (.inr (.inl (20, fun i => some (46 + i)))), .inl (0, 31, (am_fi (fun _ => 0) 1 31)), .inl (0, 31, (am_fi (fun _ => 0) 1 31)), .inl (0, 31, (am_fi (fun _ => 0) 1 31)), .inl (0, 31, (am_fi (fun _ => 0) 1 31)), .inl (0, 31, (am_fi (fun _ => 0) 1 31)), .inl (0, 31, (am_fi (fun _ => 0) 1 31)), .inl (0, 31, (am_fi (fun _ => 0) 1 31)), .inl (0, 31, (am_fi (fun _ => 0) 1 31)), .inl (0, 31, (am_fi (fun _ => 0) 1 31)), .inl (0, 31, (am_fi (fun _ => 0) 1 31)), .inl (0, 31, (am_fi (fun _ => 0) 1 31)), .inl (0, 31, (am_fi (fun _ => 0) 1 31)), .inl (0, 31, (am_fi (fun _ => 0) 1 31)), .inl (0, 31, (am_fi (fun _ => 0) 1 31)), .inl (0, 31, (am_fi (fun _ => 0) 1 31)), .inl (0, 31, (fun _ => 0)), .inl (0, 31, (fun _ => 0)), .inl (0, 31, (fun _ => 0)), .inl (0, 31, (fun _ => 0)), .inl (0, 31, (fun _ => 0))], 0, 0)
  refine ar_iinc (v := 15) (ls' := [some (.ref 42), some (.int 15)]) (q := 53) rfl rfl rfl rfl rfl rfl ?_
  refine ar_goto (t := 34) rfl rfl ?_
  refine ar_iload_n (j := 1) (q := 35) rfl rfl rfl rfl ?_
  refine ar_bipush (v := 20) (q := 37) rfl rfl rfl ?_
  refine ar_br (t := 56) (q := 40) am_c_ge rfl rfl rfl (fun c => absurd c (by decide)) (fun _ => ?_)
  refine ar_aload_n (j := 0) (q := 41) rfl rfl rfl rfl ?_
  refine ar_getf (v := .ref 45) (q := 44) rfl rfl (gA (j := 0) hp rfl rfl) rfl rfl ?_
  refine ar_iload_n (j := 1) (q := 45) rfl rfl rfl rfl ?_
  refine ar_aald (c2 := 61) (q := 46) rfl (gA (j := 3) hp rfl rfl) rfl rfl rfl ?_
  refine ar_iconst (v := 1) (q := 47) rfl rfl rfl ?_
  refine ar_invs (as := [.ref 61, .int 1]) (rest := []) (b2 := (0, 0)) (b3 := (0, 0)) (q := 50) rfl rfl rfl rfl rfl rfl rfl rfl rfl ?_
  refine ok_fill (by omega) (gA (j := 19) hp rfl rfl) (by decide) ?_
  dsimp only
  rw [sA (j := 19) (own2 := [.inr (.inr (.inr (2, [.int 0, .ref 43, .ref 44, .ref 45]))), .inl (0, 20, (fun _ => 0)), .inl (0, 20, (fun _ => 0)), .inr (.inr (.inl (20, fun i => some (46 + i)))), .inl (0, 31, (am_fi (fun _ => 0) 1 31)), .inl (0, 31, (am_fi (fun _ => 0) 1 31)), .inl (0, 31, (am_fi (fun _ => 0) 1 31)), .inl (0, 31, (am_fi (fun _ => 0) 1 31)), .inl (0, 31, (am_fi (fun _ => 0) 1 31)), .inl (0, 31, (am_fi (fun _ => 0) 1 31)), .inl (0, 31, (am_fi (fun _ => 0) 1 31)), .inl (0, 31, (am_fi (fun _ => 0) 1 31)), .inl (0, 31, (am_fi (fun _ => 0) 1 31)), .inl (0, 31, (am_fi (fun _ => 0) 1 31)), .inl (0, 31, (am_fi (fun _ => 0) 1 31)), .inl (0, 31, (am_fi (fun _ => 0) 1 31)), .inl (0, 31, (am_fi (fun _ => 0) 1 31)), .inl (0, 31, (am_fi (fun _ => 0) 1 31)), .inl (0, 31, (am_fi (fun _ => 0) 1 31)), .inl (0, 31, (am_fi (fun _ => 0) 1 31)), .inl (0, 31, (fun _ => 0)), .inl (0, 31, (fun _ => 0)), .inl (0, 31, (fun _ => 0)), .inl (0, 31, (fun _ => 0))]) hp rfl rfl]
  show am_Run am_X0 (am_meth d) 48 R 50 [some (.ref 42), some (.int 15)] [] (pre ++ [.inr (.inr (.inr (2, [.int 0, .ref 43, .ref 44, .ref 45]))), .inl (0, 20, (fun _ => 0)), .inl (0, 20, (fun _ => 0)), .inr (.inr (.inl (20, fun i => some (46 + i)))), .inl (0, 31, (am_fi (fun _ => 0) 1 31)), .inl (0, 31, (am_fi (fun _ => 0) 1 31)), .inl (0, 31, (am_fi (fun _ => 0) 1 31)), .inl (0, 31, (am_fi (fun _ => 0) 1 31)), .inl (0, 31, (am_fi (fun _ => 0) 1 31)), .inl (0, 31, (am_fi (fun _ => 0) 1 31)), .inl (0, 31, (am_fi (fun _ => 0) 1 31)), .inl (0, 31, (am_fi (fun _ => 0) 1 31)), .inl (0, 31, (am_fi (fun _ => 0) 1 31)), .inl (0, 31, (am_fi (fun _ => 0) 1 31)), .inl (0, 31, (am_fi (fun _ => 0) 1 31)), .inl (0, 31, (am_fi (fun _ => 0) 1 31)), .inl (0, 31, (am_fi (fun _ => 0) 1 31)), .inl (0, 31, (am_fi (fun _ => 0) 1 31)), .inl (0, 31, (am_fi (fun _ => 0) 1 31)), .inl (0, 31, (am_fi (fun _ => 0) 1 31)), .inl (0, 31, (fun _ => 0)), .inl (0, 31, (fun _ => 0)), .inl (0, 31, (fun _ => 0)), .inl (0, 31, (fun _ => 0))], 0, 0)
  refine ar_iinc (v := 16) (ls' := [some (.ref 42), some (.int 16)]) (q := 53) rfl rfl rfl rfl rfl rfl ?_
  refine ar_goto (t := 34) rfl rfl ?_
  refine ar_iload_n (j := 1) (q := 35) rfl rfl rfl rfl ?_
  refine ar_bipush (v := 20) (q := 37) rfl rfl rfl ?_
  refine ar_br (t := 56) (q := 40) am_c_ge rfl rfl rfl (fun c => absurd c (by decide)) (fun _ => ?_)
  refine ar_aload_n (j := 0) (q := 41) rfl rfl rfl rfl ?_
  refine ar_getf (v := .ref 45) (q := 44) rfl rfl (gA (j := 0) hp rfl rfl) rfl rfl ?_
  refine ar_iload_n (j := 1) (q := 45) rfl rfl rfl rfl ?_
  refine ar_aald (c2 := 62) (q := 46) rfl (gA (j := 3) hp rfl rfl) rfl rfl rfl ?_
  refine ar_iconst (v := 1) (q := 47) rfl rfl rfl ?_
  refine ar_invs (as := [.ref 62, .int 1]) (rest := []) (b2 := (0, 0)) (b3 := (0, 0)) (q := 50) rfl rfl rfl rfl rfl rfl rfl rfl rfl ?_
  refine ok_fill (by omega) (gA (j := 20) hp rfl rfl) (by decide) ?_
  dsimp only
  rw [sA (j := 20) (own2 := [.inr (.inr (.inr (2, [.int 0, .ref 43, .ref 44, .ref 45]))), .inl (0, 20, (fun _ => 0)), .inl (0, 20, (fun _ => 0)), .inr (.inr (.inl (20, fun i => some (46 + i)))), .inl (0, 31, (am_fi (fun _ => 0) 1 31)), .inl (0, 31, (am_fi (fun _ => 0) 1 31)), .inl (0, 31, (am_fi (fun _ => 0) 1 31)), .inl (0, 31, (am_fi (fun _ => 0) 1 31)), .inl (0, 31, (am_fi (fun _ => 0) 1 31)), .inl (0, 31, (am_fi (fun _ => 0) 1 31)), .inl (0, 31, (am_fi (fun _ => 0) 1 31)), .inl (0, 31, (am_fi (fun _ => 0) 1 31)), .inl (0, 31, (am_fi (fun _ => 0) 1 31)), .inl (0, 31, (am_fi (fun _ => 0) 1 31)), .inl (0, 31, (am_fi (fun _ => 0) 1 31)), .inl (0, 31, (am_fi (fun _ => 0) 1 31)), .inl (0, 31, (am_fi (fun _ => 0) 1 31)), .inl (0, 31, (am_fi (fun _ => 0) 1 31)), .inl (0, 31, (am_fi (fun _ => 0) 1 31)), .inl (0, 31, (am_fi (fun _ => 0) 1 31)), .inl (0, 31, (am_fi (fun _ => 0) 1 31)), .inl (0, 31, (fun _ => 0)), .inl (0, 31, (fun _ => 0)), .inl (0, 31, (fun _ => 0))]) hp rfl rfl]
  show am_Run am_X0 (am_meth d) 48 R 50 [some (.ref 42), some (.int 16)] [] (pre ++ [.inr (.inr (.inr (2, [.int 0, .ref 43, .ref 44, .ref 45]))), .inl (0, 20, (fun _ => 0)), .inl (0, 20, (fun _ => 0)), .inr (.inr (.inl (20, fun i => some (46 + i)))), .inl (0, 31, (am_fi (fun _ => 0) 1 31)), .inl (0, 31, (am_fi (fun _ => 0) 1 31)), .inl (0, 31, (am_fi (fun _ => 0) 1 31)), .inl (0, 31, (am_fi (fun _ => 0) 1 31)), .inl (0, 31, (am_fi (fun _ => 0) 1 31)), .inl (0, 31, (am_fi (fun _ => 0) 1 31)), .inl (0, 31, (am_fi (fun _ => 0) 1 31)), .inl (0, 31, (am_fi (fun _ => 0) 1 31)), .inl (0, 31, (am_fi (fun _ => 0) 1 31)), .inl (0, 31, (am_fi (fun _ => 0) 1 31)), .inl (0, 31, (am_fi (fun _ => 0) 1 31)), .inl (0, 31, (am_fi (fun _ => 0) 1 31)), .inl (0, 31, (am_fi (fun _ => 0) 1 31)), .inl (0, 31, (am_fi (fun _ => 0) 1 31)), .inl (0, 31, (am_fi (fun _ => 0) 1 31)), .inl (0, 31, (am_fi (fun _ => 0) 1 31)), .inl (0, 31, (am_fi (fun _ => 0) 1 31)), .inl (0, 31, (fun _ => 0)), .inl (0, 31, (fun _ => 0)), .inl (0, 31, (fun _ => 0))], 0, 0)
  refine ar_iinc (v := 17) (ls' := [some (.ref 42), some (.int 17)]) (q := 53) rfl rfl rfl rfl rfl rfl ?_
  refine ar_goto (t := 34) rfl rfl ?_
  refine ar_iload_n (j := 1) (q := 35) rfl rfl rfl rfl ?_
  refine ar_bipush (v := 20) (q := 37) rfl rfl rfl ?_
  refine ar_br (t := 56) (q := 40) am_c_ge rfl rfl rfl (fun c => absurd c (by decide)) (fun _ => ?_)
  refine ar_aload_n (j := 0) (q := 41) rfl rfl rfl rfl ?_
  refine ar_getf (v := .ref 45) (q := 44) rfl rfl (gA (j := 0) hp rfl rfl) rfl rfl ?_
  refine ar_iload_n (j := 1) (q := 45) rfl rfl rfl rfl ?_
  refine ar_aald (c2 := 63) (q := 46) rfl (gA (j := 3) hp rfl rfl) rfl rfl rfl ?_
  refine ar_iconst (v := 1) (q := 47) rfl rfl rfl ?_
  refine ar_invs (as := [.ref 63, .int 1]) (rest := []) (b2 := (0, 0)) (b3 := (0, 0)) (q := 50) rfl rfl rfl rfl rfl rfl rfl rfl rfl ?_
  refine ok_fill (by omega) (gA (j := 21) hp rfl rfl) (by decide) ?_
  dsimp only
  rw [sA (j := 21) (own2 := [.inr (.inr (.inr (2, [.int 0, .ref 43, .ref 44, .ref 45]))), .inl (0, 20, (fun _ => 0)), .inl (0, 20, (fun _ => 0)), .inr (.inr (.inl (20, fun i => some (46 + i)))), .inl (0, 31, (am_fi (fun _ => 0) 1 31)), .inl (0, 31, (am_fi (fun _ => 0) 1 31)), .inl (0, 31, (am_fi (fun _ => 0) 1 31)), .inl (0, 31, (am_fi (fun _ => 0) 1 31)), .inl (0, 31, (am_fi (fun _ => 0) 1 31)), .inl (0, 31, (am_fi (fun _ => 0) 1 31)), .inl (0, 31, (am_fi (fun _ => 0) 1 31)), .inl (0, 31, (am_fi (fun _ => 0) 1 31)), .inl (0, 31, (am_fi (fun _ => 0) 1 31)), .inl (0, 31, (am_fi (fun _ => 0) 1 31)), .inl (0, 31, (am_fi (fun _ => 0) 1 31)), .inl (0, 31, (am_fi (fun _ => 0) 1 31)), .inl (0, 31, (am_fi (fun _ => 0) 1 31)), .inl (0, 31, (am_fi (fun _ => 0) 1 31)), .inl (0, 31, (am_fi (fun _ => 0) 1 31)), .inl (0, 31, (am_fi (fun _ => 0) 1 31)), .inl (0, 31, (am_fi (fun _ => 0) 1 31)), .inl (0, 31, (am_fi (fun _ => 0) 1 31)), .inl (0, 31, (fun _ => 0)), .inl (0, 31, (fun _ => 0))]) hp rfl rfl]
  show am_Run am_X0 (am_meth d) 48 R 50 [some (.ref 42), some (.int 17)] [] (pre ++ [.inr (.inr (.inr (2, [.int 0, .ref 43, .ref 44, .ref 45]))), .inl (0, 20, (fun _ => 0)), .inl (0, 20, (fun _ => 0)), .inr (.inr (.inl (20, fun i => some (46 + i)))), .inl (0, 31, (am_fi (fun _ => 0) 1 31)), .inl (0, 31, (am_fi (fun _ => 0) 1 31)), .inl (0, 31, (am_fi (fun _ => 0) 1 31)), .inl (0, 31, (am_fi (fun _ => 0) 1 31)), .inl (0, 31, (am_fi (fun _ => 0) 1 31)), .inl (0, 31, (am_fi (fun _ => 0) 1 31)), .inl (0, 31, (am_fi (fun _ => 0) 1 31)), .inl (0, 31, (am_fi (fun _ => 0) 1 31)), .inl (0, 31, (am_fi (fun _ => 0) 1 31)), .inl (0, 31, (am_fi (fun _ => 0) 1 31)), .inl (0, 31, (am_fi (fun _ => 0) 1 31)), .inl (0, 31, (am_fi (fun _ => 0) 1 31)), .inl (0, 31, (am_fi (fun _ => 0) 1 31)), .inl (0, 31, (am_fi (fun _ => 0) 1 31)), .inl (0, 31, (am_fi (fun _ => 0) 1 31)), .inl (0, 31, (am_fi (fun _ => 0) 1 31)), .inl (0, 31, (am_fi (fun _ => 0) 1 31)), .inl (0, 31, (am_fi (fun _ => 0) 1 31)), .inl (0, 31, (fun _ => 0)), .inl (0, 31, (fun _ => 0))], 0, 0)
  refine ar_iinc (v := 18) (ls' := [some (.ref 42), some (.int 18)]) (q := 53) rfl rfl rfl rfl rfl rfl ?_
  refine ar_goto (t := 34) rfl rfl ?_
  refine ar_iload_n (j := 1) (q := 35) rfl rfl rfl rfl ?_
  refine ar_bipush (v := 20) (q := 37) rfl rfl rfl ?_
  refine ar_br (t := 56) (q := 40) am_c_ge rfl rfl rfl (fun c => absurd c (by decide)) (fun _ => ?_)
  refine ar_aload_n (j := 0) (q := 41) rfl rfl rfl rfl ?_
  refine ar_getf (v := .ref 45) (q := 44) rfl rfl (gA (j := 0) hp rfl rfl) rfl rfl ?_
  refine ar_iload_n (j := 1) (q := 45) rfl rfl rfl rfl ?_
  refine ar_aald (c2 := 64) (q := 46) rfl (gA (j := 3) hp rfl rfl) rfl rfl rfl ?_
  refine ar_iconst (v := 1) (q := 47) rfl rfl rfl ?_
  refine ar_invs (as := [.ref 64, .int 1]) (rest := []) (b2 := (0, 0)) (b3 := (0, 0)) (q := 50) rfl rfl rfl rfl rfl rfl rfl rfl rfl ?_
  refine ok_fill (by omega) (gA (j := 22) hp rfl rfl) (by decide) ?_
  dsimp only
  rw [sA (j := 22) (own2 := [.inr (.inr (.inr (2, [.int 0, .ref 43, .ref 44, .ref 45]))), .inl (0, 20, (fun _ => 0)), .inl (0, 20, (fun _ => 0)), .inr (.inr (.inl (20, fun i => some (46 + i)))), .inl (0, 31, (am_fi (fun _ => 0) 1 31)), .inl (0, 31, (am_fi (fun _ => 0) 1 31)), .inl (0, 31, (am_fi (fun _ => 0) 1 31)), .inl (0, 31, (am_fi (fun _ => 0) 1 31)), .inl (0, 31, (am_fi (fun _ => 0) 1 31)), .inl (0, 31, (am_fi (fun _ => 0) 1 31)), .inl (0, 31, (am_fi (fun _ => 0) 1 31)), .inl (0, 31, (am_fi (fun _ => 0) 1 31)), .inl (0, 31, (am_fi (fun _ => 0) 1 31)), .inl (0, 31, (am_fi (fun _ => 0) 1 31)), .inl (0, 31, (am_fi (fun _ => 0) 1 31)), .inl (0, 31, (am_fi (fun _ => 0) 1 31)), .inl (0, 31, (am_fi (fun _ => 0) 1 31)), .inl (0, 31, (am_fi (fun _ => 0) 1 31)), .inl (0, 31, (am_fi (fun _ => 0) 1 31)), .inl (0, 31, (am_fi (fun _ => 0) 1 31)), .inl (0, 31, (am_fi (fun _ => 0) 1 31)), .inl (0, 31, (am_fi (fun _ => 0) 1 31)), .inl (0, 31, (am_fi (fun _ => 0) 1 31)), .inl (0, 31, (fun _ => 0))]) hp rfl rfl]
  show am_Run am_X0 (am_meth d) 48 R 50 [some (.ref 42), some (.int 18)] [] (pre ++ [.inr (.inr (.inr (2, [.int 0, .ref 43, .ref 44, .ref 45]))), .inl (0, 20, (fun _ => 0)), .inl (0, 20, (fun _ => 0)), .inr (.inr (.inl (20, fun i => some (46 + i)))), .inl (0, 31, (am_fi (fun _ => 0) 1 31)), .inl (0, 31, (am_fi (fun _ => 0) 1 31)), .inl (0, 31, (am_fi (fun _ => 0) 1 31)), .inl (0, 31, (am_fi (fun _ => 0) 1 31)), .inl (0, 31, (am_fi (fun _ => 0) 1 31)), .inl (0, 31, (am_fi (fun _ => 0) 1 31)), .inl (0, 31, (am_fi (fun _ => 0) 1 31)), .inl (0, 31, (am_fi (fun _ => 0) 1 31)), .inl (0, 31, (am_fi (fun _ => 0) 1 31)), .inl (0, 31, (am_fi (fun _ => 0) 1 31)), .inl (0, 31, (am_fi (fun _ => 0) 1 31)), .inl (0, 31, (am_fi (fun _ => 0) 1 31)), .inl (0, 31, (am_fi (fun _ => 0) 1 31)), .inl (0, 31, (am_fi (fun _ => 0) 1 31)), .inl (0, 31, (am_fi (fun _ => 0) 1 31)), .inl (0, 31, (am_fi (fun _ => 0) 1 31)), .inl (0, 31, (am_fi (fun _ => 0) 1 31)), .inl (0, 31, (am_fi (fun _ => 0) 1 31)), .inl (0, 31, (am_fi (fun _ => 0) 1 31)), .inl (0, 31, (fun _ => 0))], 0, 0)
  refine ar_iinc (v := 19) (ls' := [some (.ref 42), some (.int 19)]) (q := 53) rfl rfl rfl rfl rfl rfl ?_
  refine ar_goto (t := 34) rfl rfl ?_
  refine ar_iload_n (j := 1) (q := 35) rfl rfl rfl rfl ?_
  refine ar_bipush (v := 20) (q := 37) rfl rfl rfl ?_
  refine ar_br (t := 56) (q := 40) am_c_ge rfl rfl rfl (fun c => absurd c (by decide)) (fun _ => ?_)
  refine ar_aload_n (j := 0) (q := 41) rfl rfl rfl rfl ?_
  refine ar_getf (v := .ref 45) (q := 44) rfl rfl (gA (j := 0) hp rfl rfl) rfl rfl ?_
  refine ar_iload_n (j := 1) (q := 45) rfl rfl rfl rfl ?_
  refine ar_aald (c2 := 65) (q := 46) rfl (gA (j := 3) hp rfl rfl) rfl rfl rfl ?_
  refine ar_iconst (v := 1) (q := 47) rfl rfl rfl ?_
  refine ar_invs (as := [.ref 65, .int 1]) (rest := []) (b2 := (0, 0)) (b3 := (0, 0)) (q := 50) rfl rfl rfl rfl rfl rfl rfl rfl rfl ?_
  refine ok_fill (by omega) (gA (j := 23) hp rfl rfl) (by decide) ?_
  dsimp only
  rw [sA (j := 23) (own2 := [.inr (.inr (.inr (2, [.int 0, .ref 43, .ref 44, .ref 45]))), .inl (0, 20, (fun _ => 0)), .inl (0, 20, (fun _ => 0)), .inr (.inr (.inl (20, fun i => some (46 + i)))), .inl (0, 31, (am_fi (fun _ => 0) 1 31)), .inl (0, 31, (am_fi (fun _ => 0) 1 31)), .inl (0, 31, (am_fi (fun _ => 0) 1 31)), .inl (0, 31, (am_fi (fun _ => 0) 1 31)), .inl (0, 31, (am_fi (fun _ => 0) 1 31)), .inl (0, 31, (am_fi (fun _ => 0) 1 31)), .inl (0, 31, (am_fi (fun _ => 0) 1 31)), .inl (0, 31, (am_fi (fun _ => 0) 1 31)), .inl (0, 31, (am_fi (fun _ => 0) 1 31)), .inl (0, 31, (am_fi (fun _ => 0) 1 31)), .inl (0, 31, (am_fi (fun _ => 0) 1 31)), .inl (0, 31, (am_fi (fun _ => 0) 1 31)), .inl (0, 31, (am_fi (fun _ => 0) 1 31)), .inl (0, 31, (am_fi (fun _ => 0) 1 31)), .inl (0, 31, (am_fi (fun _ => 0) 1 31)), .inl (0, 31, (am_fi (fun _ => 0) 1 31)), .inl (0, 31, (am_fi (fun _ => 0) 1 31)), .inl (0, 31, (am_fi (fun _ => 0) 1 31)), .inl (0, 31, (am_fi (fun _ => 0) 1 31)), .inl (0, 31, (am_fi (fun _ => 0) 1 31))]) hp rfl rfl]
  show am_Run am_X0 (am_meth d) 48 R 50 [some (.ref 42), some (.int 19)] [] (pre ++ [.inr (.inr (.inr (2, [.int 0, .ref 43, .ref 44, .ref 45]))), .inl (0, 20, (fun _ => 0)), .inl (0, 20, (fun _ => 0)), .inr (.inr (.inl (20, fun i => some (46 + i)))), .inl (0, 31, (am_fi (fun _ => 0) 1 31)), .inl (0, 31, (am_fi (fun _ => 0) 1 31)), .inl (0, 31, (am_fi (fun _ => 0) 1 31)), .inl (0, 31, (am_fi (fun _ => 0) 1 31)), .inl (0, 31, (am_fi (fun _ => 0) 1 31)), .inl (0, 31, (am_fi (fun _ => 0) 1 31)), .inl (0, 31, (am_fi (fun _ => 0) 1 31)), .inl (0, 31, (am_fi (fun _ => 0) 1 31)), .inl (0, 31, (am_fi (fun _ => 0) 1 31)), .inl (0, 31, (am_fi (fun _ => 0) 1 31)), .inl (0, 31, (am_fi (fun _ => 0) 1 31)), .inl (0, 31, (am_fi (fun _ => 0) 1 31)), .inl (0, 31, (am_fi (fun _ => 0) 1 31)), .inl (0, 31, (am_fi (fun _ => 0) 1 31)), .inl (0, 31, (am_fi (fun _ => 0) 1 31)), .inl (0, 31, (am_fi (fun _ => 0) 1 31)), .inl (0, 31, (am_fi (fun _ => 0) 1 31)), .inl (0, 31, (am_fi (fun _ => 0) 1 31)), .inl (0, 31, (am_fi (fun _ => 0) 1 31)), .inl (0, 31, (am_fi (fun _ => 0) 1 31))], 0, 0)
  refine ar_iinc (v := 20) (ls' := [some (.ref 42), some (.int 20)]) (q := 53) rfl rfl rfl rfl rfl rfl ?_
  refine ar_goto (t := 34) rfl rfl ?_
  refine ar_iload_n (j := 1) (q := 35) rfl rfl rfl rfl ?_
  refine ar_bipush (v := 20) (q := 37) rfl rfl rfl ?_
  refine ar_br (t := 56) (q := 40) am_c_ge rfl rfl rfl (fun _ => ?_) (fun c => absurd (by decide) c)
  exact ar_vret rfl rfl h
set_option maxRecDepth 20000 in
theorem n_Stays66 {d : Nat} {R : am_R} {pre : List am_C} (hd : 2 ≤ d) (hp : pre.length = 66) (h : R none (pre ++ [.inr (.inr (.inr (8, [.int 0, .int 0, .ref 67, .ref 68, .ref 69, .ref 70, .ref 71, .ref 72, .ref 73]))), .inl (0, 60, (fun _ => 0)), .inl (0, 60, (fun _ => 0)), .inl (0, 60, (fun _ => 0)), .inl (0, 60, (fun _ => 0)), .inl (0, 60, (am_fi (fun _ => 0) (-9 : Int32) 60)), .inl (0, 60, (am_fi (fun _ => 0) (-1 : Int32) 60)), .inl (0, 60, (am_fi (fun _ => 0) (-1 : Int32) 60))], 0, 0)) : am_meth d 114 [.ref 66] (pre ++ [.inr (.inr (.inr (8, [.int 0, .int 0, .null, .null, .null, .null, .null, .null, .null])))], 7, 420) R := by
  obtain ⟨d, rfl⟩ : ∃ e, d = e + 1 := ⟨d - 1, by omega⟩
  refine ar_in (ls := [some (.ref 66)]) rfl rfl rfl ?_
  refine ar_aload_n (j := 0) (q := 1) rfl rfl rfl rfl ?_
  refine ar_oi (q := 4) rfl rfl (by decide) rfl ?_
  refine ar_aload_n (j := 0) (q := 5) rfl rfl rfl rfl ?_
  refine ar_bipush (v := 60) (q := 7) rfl rfl rfl ?_
  refine ar_newa (t := 0) (m := 60) (n := 67) (hp2 := pre ++ [.inr (.inr (.inr (8, [.int 0, .int 0, .null, .null, .null, .null, .null, .null, .null]))), .inl (0, 60, (fun _ => 0))]) (b2 := (6, 360)) (q := 9) (by decide) rfl rfl rfl (lA hp rfl rfl) (aA rfl) rfl rfl ?_
  refine ar_putf (hp2 := pre ++ [.inr (.inr (.inr (8, [.int 0, .int 0, .ref 67, .null, .null, .null, .null, .null, .null]))), .inl (0, 60, (fun _ => 0))]) (q := 12) rfl rfl (gA (j := 0) hp rfl rfl) rfl (sA (j := 0) hp rfl rfl) rfl ?_
  refine ar_aload_n (j := 0) (q := 13) rfl rfl rfl rfl ?_
  refine ar_bipush (v := 60) (q := 15) rfl rfl rfl ?_
  refine ar_newa (t := 0) (m := 60) (n := 68) (hp2 := pre ++ [.inr (.inr (.inr (8, [.int 0, .int 0, .ref 67, .null, .null, .null, .null, .null, .null]))), .inl (0, 60, (fun _ => 0)), .inl (0, 60, (fun _ => 0))]) (b2 := (5, 300)) (q := 17) (by decide) rfl rfl rfl (lA hp rfl rfl) (aA rfl) rfl rfl ?_
  refine ar_putf (hp2 := pre ++ [.inr (.inr (.inr (8, [.int 0, .int 0, .ref 67, .ref 68, .null, .null, .null, .null, .null]))), .inl (0, 60, (fun _ => 0)), .inl (0, 60, (fun _ => 0))]) (q := 20) rfl rfl (gA (j := 0) hp rfl rfl) rfl (sA (j := 0) hp rfl rfl) rfl ?_
  refine ar_aload_n (j := 0) (q := 21) rfl rfl rfl rfl ?_
  refine ar_bipush (v := 60) (q := 23) rfl rfl rfl ?_
  refine ar_newa (t := 0) (m := 60) (n := 69) (hp2 := pre ++ [.inr (.inr (.inr (8, [.int 0, .int 0, .ref 67, .ref 68, .null, .null, .null, .null, .null]))), .inl (0, 60, (fun _ => 0)), .inl (0, 60, (fun _ => 0)), .inl (0, 60, (fun _ => 0))]) (b2 := (4, 240)) (q := 25) (by decide) rfl rfl rfl (lA hp rfl rfl) (aA rfl) rfl rfl ?_
  refine ar_putf (hp2 := pre ++ [.inr (.inr (.inr (8, [.int 0, .int 0, .ref 67, .ref 68, .ref 69, .null, .null, .null, .null]))), .inl (0, 60, (fun _ => 0)), .inl (0, 60, (fun _ => 0)), .inl (0, 60, (fun _ => 0))]) (q := 28) rfl rfl (gA (j := 0) hp rfl rfl) rfl (sA (j := 0) hp rfl rfl) rfl ?_
  refine ar_aload_n (j := 0) (q := 29) rfl rfl rfl rfl ?_
  refine ar_bipush (v := 60) (q := 31) rfl rfl rfl ?_
  refine ar_newa (t := 0) (m := 60) (n := 70) (hp2 := pre ++ [.inr (.inr (.inr (8, [.int 0, .int 0, .ref 67, .ref 68, .ref 69, .null, .null, .null, .null]))), .inl (0, 60, (fun _ => 0)), .inl (0, 60, (fun _ => 0)), .inl (0, 60, (fun _ => 0)), .inl (0, 60, (fun _ => 0))]) (b2 := (3, 180)) (q := 33) (by decide) rfl rfl rfl (lA hp rfl rfl) (aA rfl) rfl rfl ?_
  refine ar_putf (hp2 := pre ++ [.inr (.inr (.inr (8, [.int 0, .int 0, .ref 67, .ref 68, .ref 69, .ref 70, .null, .null, .null]))), .inl (0, 60, (fun _ => 0)), .inl (0, 60, (fun _ => 0)), .inl (0, 60, (fun _ => 0)), .inl (0, 60, (fun _ => 0))]) (q := 36) rfl rfl (gA (j := 0) hp rfl rfl) rfl (sA (j := 0) hp rfl rfl) rfl ?_
  refine ar_aload_n (j := 0) (q := 37) rfl rfl rfl rfl ?_
  refine ar_bipush (v := 60) (q := 39) rfl rfl rfl ?_
  refine ar_newa (t := 0) (m := 60) (n := 71) (hp2 := pre ++ [.inr (.inr (.inr (8, [.int 0, .int 0, .ref 67, .ref 68, .ref 69, .ref 70, .null, .null, .null]))), .inl (0, 60, (fun _ => 0)), .inl (0, 60, (fun _ => 0)), .inl (0, 60, (fun _ => 0)), .inl (0, 60, (fun _ => 0)), .inl (0, 60, (fun _ => 0))]) (b2 := (2, 120)) (q := 41) (by decide) rfl rfl rfl (lA hp rfl rfl) (aA rfl) rfl rfl ?_
  refine ar_putf (hp2 := pre ++ [.inr (.inr (.inr (8, [.int 0, .int 0, .ref 67, .ref 68, .ref 69, .ref 70, .ref 71, .null, .null]))), .inl (0, 60, (fun _ => 0)), .inl (0, 60, (fun _ => 0)), .inl (0, 60, (fun _ => 0)), .inl (0, 60, (fun _ => 0)), .inl (0, 60, (fun _ => 0))]) (q := 44) rfl rfl (gA (j := 0) hp rfl rfl) rfl (sA (j := 0) hp rfl rfl) rfl ?_
  refine ar_aload_n (j := 0) (q := 45) rfl rfl rfl rfl ?_
  refine ar_bipush (v := 60) (q := 47) rfl rfl rfl ?_
  refine ar_newa (t := 0) (m := 60) (n := 72) (hp2 := pre ++ [.inr (.inr (.inr (8, [.int 0, .int 0, .ref 67, .ref 68, .ref 69, .ref 70, .ref 71, .null, .null]))), .inl (0, 60, (fun _ => 0)), .inl (0, 60, (fun _ => 0)), .inl (0, 60, (fun _ => 0)), .inl (0, 60, (fun _ => 0)), .inl (0, 60, (fun _ => 0)), .inl (0, 60, (fun _ => 0))]) (b2 := (1, 60)) (q := 49) (by decide) rfl rfl rfl (lA hp rfl rfl) (aA rfl) rfl rfl ?_
  refine ar_putf (hp2 := pre ++ [.inr (.inr (.inr (8, [.int 0, .int 0, .ref 67, .ref 68, .ref 69, .ref 70, .ref 71, .ref 72, .null]))), .inl (0, 60, (fun _ => 0)), .inl (0, 60, (fun _ => 0)), .inl (0, 60, (fun _ => 0)), .inl (0, 60, (fun _ => 0)), .inl (0, 60, (fun _ => 0)), .inl (0, 60, (fun _ => 0))]) (q := 52) rfl rfl (gA (j := 0) hp rfl rfl) rfl (sA (j := 0) hp rfl rfl) rfl ?_
  refine ar_aload_n (j := 0) (q := 53) rfl rfl rfl rfl ?_
  refine ar_bipush (v := 60) (q := 55) rfl rfl rfl ?_
  refine ar_newa (t := 0) (m := 60) (n := 73) (hp2 := pre ++ [.inr (.inr (.inr (8, [.int 0, .int 0, .ref 67, .ref 68, .ref 69, .ref 70, .ref 71, .ref 72, .null]))), .inl (0, 60, (fun _ => 0)), .inl (0, 60, (fun _ => 0)), .inl (0, 60, (fun _ => 0)), .inl (0, 60, (fun _ => 0)), .inl (0, 60, (fun _ => 0)), .inl (0, 60, (fun _ => 0)), .inl (0, 60, (fun _ => 0))]) (b2 := (0, 0)) (q := 57) (by decide) rfl rfl rfl (lA hp rfl rfl) (aA rfl) rfl rfl ?_
  refine ar_putf (hp2 := pre ++ [.inr (.inr (.inr (8, [.int 0, .int 0, .ref 67, .ref 68, .ref 69, .ref 70, .ref 71, .ref 72, .ref 73]))), .inl (0, 60, (fun _ => 0)), .inl (0, 60, (fun _ => 0)), .inl (0, 60, (fun _ => 0)), .inl (0, 60, (fun _ => 0)), .inl (0, 60, (fun _ => 0)), .inl (0, 60, (fun _ => 0)), .inl (0, 60, (fun _ => 0))]) (q := 60) rfl rfl (gA (j := 0) hp rfl rfl) rfl (sA (j := 0) hp rfl rfl) rfl ?_
  refine ar_aload_n (j := 0) (q := 61) rfl rfl rfl rfl ?_
  refine ar_getf (v := .ref 71) (q := 64) rfl rfl (gA (j := 0) hp rfl rfl) rfl rfl ?_
  refine ar_bipush (v := (-9 : Int32)) (q := 66) rfl rfl rfl ?_
  refine ar_invs (as := [.ref 71, .int (-9 : Int32)]) (rest := []) (b2 := (0, 0)) (b3 := (0, 0)) (q := 69) rfl rfl rfl rfl rfl rfl rfl rfl rfl ?_
  refine ok_fill (by omega) (gA (j := 5) hp rfl rfl) (by decide) ?_
  dsimp only
  rw [sA (j := 5) (own2 := [.inr (.inr (.inr (8, [.int 0, .int 0, .ref 67, .ref 68, .ref 69, .ref 70, .ref 71, .ref 72, .ref 73]))), .inl (0, 60, (fun _ => 0)), .inl (0, 60, (fun _ => 0)), .inl (0, 60, (fun _ => 0)), .inl (0, 60, (fun _ => 0)), .inl (0, 60, (am_fi (fun _ => 0) (-9 : Int32) 60)), .inl (0, 60, (fun _ => 0)), .inl (0, 60, (fun _ => 0))]) hp rfl rfl]
  show am_Run am_X0 (am_meth d) 114 R 69 [some (.ref 66)] [] (pre ++ [.inr (.inr (.inr (8, [.int 0, .int 0, .ref 67, .ref 68, .ref 69, .ref 70, .ref 71, .ref 72, .ref 73]))), .inl (0, 60, (fun _ => 0)), .inl (0, 60, (fun _ => 0)), .inl (0, 60, (fun _ => 0)), .inl (0, 60, (fun _ => 0)), .inl (0, 60, (am_fi (fun _ => 0) (-9 : Int32) 60)), .inl (0, 60, (fun _ => 0)), .inl (0, 60, (fun _ => 0))], 0, 0)
  refine ar_aload_n (j := 0) (q := 70) rfl rfl rfl rfl ?_
  refine ar_getf (v := .ref 72) (q := 73) rfl rfl (gA (j := 0) hp rfl rfl) rfl rfl ?_
  refine ar_iconst (v := (-1 : Int32)) (q := 74) rfl rfl rfl ?_
  refine ar_invs (as := [.ref 72, .int (-1 : Int32)]) (rest := []) (b2 := (0, 0)) (b3 := (0, 0)) (q := 77) rfl rfl rfl rfl rfl rfl rfl rfl rfl ?_
  refine ok_fill (by omega) (gA (j := 6) hp rfl rfl) (by decide) ?_
  dsimp only
  rw [sA (j := 6) (own2 := [.inr (.inr (.inr (8, [.int 0, .int 0, .ref 67, .ref 68, .ref 69, .ref 70, .ref 71, .ref 72, .ref 73]))), .inl (0, 60, (fun _ => 0)), .inl (0, 60, (fun _ => 0)), .inl (0, 60, (fun _ => 0)), .inl (0, 60, (fun _ => 0)), .inl (0, 60, (am_fi (fun _ => 0) (-9 : Int32) 60)), .inl (0, 60, (am_fi (fun _ => 0) (-1 : Int32) 60)), .inl (0, 60, (fun _ => 0))]) hp rfl rfl]
  show am_Run am_X0 (am_meth d) 114 R 77 [some (.ref 66)] [] (pre ++ [.inr (.inr (.inr (8, [.int 0, .int 0, .ref 67, .ref 68, .ref 69, .ref 70, .ref 71, .ref 72, .ref 73]))), .inl (0, 60, (fun _ => 0)), .inl (0, 60, (fun _ => 0)), .inl (0, 60, (fun _ => 0)), .inl (0, 60, (fun _ => 0)), .inl (0, 60, (am_fi (fun _ => 0) (-9 : Int32) 60)), .inl (0, 60, (am_fi (fun _ => 0) (-1 : Int32) 60)), .inl (0, 60, (fun _ => 0))], 0, 0)
  refine ar_aload_n (j := 0) (q := 78) rfl rfl rfl rfl ?_
  refine ar_getf (v := .ref 73) (q := 81) rfl rfl (gA (j := 0) hp rfl rfl) rfl rfl ?_
  refine ar_iconst (v := (-1 : Int32)) (q := 82) rfl rfl rfl ?_
  refine ar_invs (as := [.ref 73, .int (-1 : Int32)]) (rest := []) (b2 := (0, 0)) (b3 := (0, 0)) (q := 85) rfl rfl rfl rfl rfl rfl rfl rfl rfl ?_
  refine ok_fill (by omega) (gA (j := 7) hp rfl rfl) (by decide) ?_
  dsimp only
  rw [sA (j := 7) (own2 := [.inr (.inr (.inr (8, [.int 0, .int 0, .ref 67, .ref 68, .ref 69, .ref 70, .ref 71, .ref 72, .ref 73]))), .inl (0, 60, (fun _ => 0)), .inl (0, 60, (fun _ => 0)), .inl (0, 60, (fun _ => 0)), .inl (0, 60, (fun _ => 0)), .inl (0, 60, (am_fi (fun _ => 0) (-9 : Int32) 60)), .inl (0, 60, (am_fi (fun _ => 0) (-1 : Int32) 60)), .inl (0, 60, (am_fi (fun _ => 0) (-1 : Int32) 60))]) hp rfl rfl]
  show am_Run am_X0 (am_meth d) 114 R 85 [some (.ref 66)] [] (pre ++ [.inr (.inr (.inr (8, [.int 0, .int 0, .ref 67, .ref 68, .ref 69, .ref 70, .ref 71, .ref 72, .ref 73]))), .inl (0, 60, (fun _ => 0)), .inl (0, 60, (fun _ => 0)), .inl (0, 60, (fun _ => 0)), .inl (0, 60, (fun _ => 0)), .inl (0, 60, (am_fi (fun _ => 0) (-9 : Int32) 60)), .inl (0, 60, (am_fi (fun _ => 0) (-1 : Int32) 60)), .inl (0, 60, (am_fi (fun _ => 0) (-1 : Int32) 60))], 0, 0)
  exact ar_vret rfl rfl h
set_option maxRecDepth 20000 in
theorem n_Reviews74 {d : Nat} {R : am_R} {pre : List am_C} (hd : 2 ≤ d) (hp : pre.length = 74) (h : R none (pre ++ [.inr (.inr (.inr (5, [.int 0, .ref 75, .ref 76, .ref 77, .ref 66, .ref 78, .ref 81, .ref 84, .int 1501]))), .inl (0, 20, (fun _ => 0)), .inl (0, 20, (fun _ => 0)), .inl (0, 20, (fun _ => 0)), .inr (.inr (.inl (2, fun i => some (79 + i)))), .inl (0, 60, (fun _ => 0)), .inl (0, 60, (fun _ => 0)), .inr (.inr (.inl (2, fun i => some (82 + i)))), .inl (0, 60, (am_fi (fun _ => 0) 1501 60)), .inl (0, 60, (am_fi (fun _ => 0) 1501 60)), .inl (0, 20, (fun _ => 0))], 0, 0)) : am_meth d 75 [.ref 74, .ref 66] (pre ++ [.inr (.inr (.inr (5, [.int 0, .null, .null, .null, .null, .null, .null, .null, .int 0])))], 10, 324) R := by
  obtain ⟨d, rfl⟩ : ∃ e, d = e + 1 := ⟨d - 1, by omega⟩
  refine ar_in (ls := [some (.ref 74), some (.ref 66)]) rfl rfl rfl ?_
  refine ar_aload_n (j := 0) (q := 1) rfl rfl rfl rfl ?_
  refine ar_oi (q := 4) rfl rfl (by decide) rfl ?_
  refine ar_aload_n (j := 0) (q := 5) rfl rfl rfl rfl ?_
  refine ar_bipush (v := 20) (q := 7) rfl rfl rfl ?_
  refine ar_newa (t := 0) (m := 20) (n := 75) (hp2 := pre ++ [.inr (.inr (.inr (5, [.int 0, .null, .null, .null, .null, .null, .null, .null, .int 0]))), .inl (0, 20, (fun _ => 0))]) (b2 := (9, 304)) (q := 9) (by decide) rfl rfl rfl (lA hp rfl rfl) (aA rfl) rfl rfl ?_
  refine ar_putf (hp2 := pre ++ [.inr (.inr (.inr (5, [.int 0, .ref 75, .null, .null, .null, .null, .null, .null, .int 0]))), .inl (0, 20, (fun _ => 0))]) (q := 12) rfl rfl (gA (j := 0) hp rfl rfl) rfl (sA (j := 0) hp rfl rfl) rfl ?_
  refine ar_aload_n (j := 0) (q := 13) rfl rfl rfl rfl ?_
  refine ar_bipush (v := 20) (q := 15) rfl rfl rfl ?_
  refine ar_newa (t := 0) (m := 20) (n := 76) (hp2 := pre ++ [.inr (.inr (.inr (5, [.int 0, .ref 75, .null, .null, .null, .null, .null, .null, .int 0]))), .inl (0, 20, (fun _ => 0)), .inl (0, 20, (fun _ => 0))]) (b2 := (8, 284)) (q := 17) (by decide) rfl rfl rfl (lA hp rfl rfl) (aA rfl) rfl rfl ?_
  refine ar_putf (hp2 := pre ++ [.inr (.inr (.inr (5, [.int 0, .ref 75, .ref 76, .null, .null, .null, .null, .null, .int 0]))), .inl (0, 20, (fun _ => 0)), .inl (0, 20, (fun _ => 0))]) (q := 20) rfl rfl (gA (j := 0) hp rfl rfl) rfl (sA (j := 0) hp rfl rfl) rfl ?_
  refine ar_aload_n (j := 0) (q := 21) rfl rfl rfl rfl ?_
  refine ar_bipush (v := 20) (q := 23) rfl rfl rfl ?_
  refine ar_newa (t := 0) (m := 20) (n := 77) (hp2 := pre ++ [.inr (.inr (.inr (5, [.int 0, .ref 75, .ref 76, .null, .null, .null, .null, .null, .int 0]))), .inl (0, 20, (fun _ => 0)), .inl (0, 20, (fun _ => 0)), .inl (0, 20, (fun _ => 0))]) (b2 := (7, 264)) (q := 25) (by decide) rfl rfl rfl (lA hp rfl rfl) (aA rfl) rfl rfl ?_
  refine ar_putf (hp2 := pre ++ [.inr (.inr (.inr (5, [.int 0, .ref 75, .ref 76, .ref 77, .null, .null, .null, .null, .int 0]))), .inl (0, 20, (fun _ => 0)), .inl (0, 20, (fun _ => 0)), .inl (0, 20, (fun _ => 0))]) (q := 28) rfl rfl (gA (j := 0) hp rfl rfl) rfl (sA (j := 0) hp rfl rfl) rfl ?_
  refine ar_aload_n (j := 0) (q := 29) rfl rfl rfl rfl ?_
  refine ar_iconst (v := 2) (q := 30) rfl rfl rfl ?_
  refine ar_bipush (v := 60) (q := 32) rfl rfl rfl ?_
  refine ar_mna (m := 2) (j := 60) (n := 78) (hp2 := pre ++ [.inr (.inr (.inr (5, [.int 0, .ref 75, .ref 76, .ref 77, .null, .null, .null, .null, .int 0]))), .inl (0, 20, (fun _ => 0)), .inl (0, 20, (fun _ => 0)), .inl (0, 20, (fun _ => 0)), .inr (.inr (.inl (2, fun i => some (79 + i)))), .inl (0, 60, (fun _ => 0)), .inl (0, 60, (fun _ => 0))]) (b2 := (4, 142)) (q := 36) rfl rfl rfl rfl (lA hp rfl rfl) (aA rfl) rfl rfl ?_
  refine ar_putf (hp2 := pre ++ [.inr (.inr (.inr (5, [.int 0, .ref 75, .ref 76, .ref 77, .null, .ref 78, .null, .null, .int 0]))), .inl (0, 20, (fun _ => 0)), .inl (0, 20, (fun _ => 0)), .inl (0, 20, (fun _ => 0)), .inr (.inr (.inl (2, fun i => some (79 + i)))), .inl (0, 60, (fun _ => 0)), .inl (0, 60, (fun _ => 0))]) (q := 39) rfl rfl (gA (j := 0) hp rfl rfl) rfl (sA (j := 0) hp rfl rfl) rfl ?_
  refine ar_aload_n (j := 0) (q := 40) rfl rfl rfl rfl ?_
  refine ar_iconst (v := 2) (q := 41) rfl rfl rfl ?_
  refine ar_bipush (v := 60) (q := 43) rfl rfl rfl ?_
  refine ar_mna (m := 2) (j := 60) (n := 81) (hp2 := pre ++ [.inr (.inr (.inr (5, [.int 0, .ref 75, .ref 76, .ref 77, .null, .ref 78, .null, .null, .int 0]))), .inl (0, 20, (fun _ => 0)), .inl (0, 20, (fun _ => 0)), .inl (0, 20, (fun _ => 0)), .inr (.inr (.inl (2, fun i => some (79 + i)))), .inl (0, 60, (fun _ => 0)), .inl (0, 60, (fun _ => 0)), .inr (.inr (.inl (2, fun i => some (82 + i)))), .inl (0, 60, (fun _ => 0)), .inl (0, 60, (fun _ => 0))]) (b2 := (1, 20)) (q := 47) rfl rfl rfl rfl (lA hp rfl rfl) (aA rfl) rfl rfl ?_
  refine ar_putf (hp2 := pre ++ [.inr (.inr (.inr (5, [.int 0, .ref 75, .ref 76, .ref 77, .null, .ref 78, .ref 81, .null, .int 0]))), .inl (0, 20, (fun _ => 0)), .inl (0, 20, (fun _ => 0)), .inl (0, 20, (fun _ => 0)), .inr (.inr (.inl (2, fun i => some (79 + i)))), .inl (0, 60, (fun _ => 0)), .inl (0, 60, (fun _ => 0)), .inr (.inr (.inl (2, fun i => some (82 + i)))), .inl (0, 60, (fun _ => 0)), .inl (0, 60, (fun _ => 0))]) (q := 50) rfl rfl (gA (j := 0) hp rfl rfl) rfl (sA (j := 0) hp rfl rfl) rfl ?_
  refine ar_aload_n (j := 0) (q := 51) rfl rfl rfl rfl ?_
  refine ar_bipush (v := 20) (q := 53) rfl rfl rfl ?_
  refine ar_newa (t := 0) (m := 20) (n := 84) (hp2 := pre ++ [.inr (.inr (.inr (5, [.int 0, .ref 75, .ref 76, .ref 77, .null, .ref 78, .ref 81, .null, .int 0]))), .inl (0, 20, (fun _ => 0)), .inl (0, 20, (fun _ => 0)), .inl (0, 20, (fun _ => 0)), .inr (.inr (.inl (2, fun i => some (79 + i)))), .inl (0, 60, (fun _ => 0)), .inl (0, 60, (fun _ => 0)), .inr (.inr (.inl (2, fun i => some (82 + i)))), .inl (0, 60, (fun _ => 0)), .inl (0, 60, (fun _ => 0)), .inl (0, 20, (fun _ => 0))]) (b2 := (0, 0)) (q := 55) (by decide) rfl rfl rfl (lA hp rfl rfl) (aA rfl) rfl rfl ?_
  refine ar_putf (hp2 := pre ++ [.inr (.inr (.inr (5, [.int 0, .ref 75, .ref 76, .ref 77, .null, .ref 78, .ref 81, .ref 84, .int 0]))), .inl (0, 20, (fun _ => 0)), .inl (0, 20, (fun _ => 0)), .inl (0, 20, (fun _ => 0)), .inr (.inr (.inl (2, fun i => some (79 + i)))), .inl (0, 60, (fun _ => 0)), .inl (0, 60, (fun _ => 0)), .inr (.inr (.inl (2, fun i => some (82 + i)))), .inl (0, 60, (fun _ => 0)), .inl (0, 60, (fun _ => 0)), .inl (0, 20, (fun _ => 0))]) (q := 58) rfl rfl (gA (j := 0) hp rfl rfl) rfl (sA (j := 0) hp rfl rfl) rfl ?_
  refine ar_aload_n (j := 0) (q := 59) rfl rfl rfl rfl ?_
  refine ar_sipush (v := 1501) (q := 62) rfl rfl rfl ?_
  refine ar_putf (hp2 := pre ++ [.inr (.inr (.inr (5, [.int 0, .ref 75, .ref 76, .ref 77, .null, .ref 78, .ref 81, .ref 84, .int 1501]))), .inl (0, 20, (fun _ => 0)), .inl (0, 20, (fun _ => 0)), .inl (0, 20, (fun _ => 0)), .inr (.inr (.inl (2, fun i => some (79 + i)))), .inl (0, 60, (fun _ => 0)), .inl (0, 60, (fun _ => 0)), .inr (.inr (.inl (2, fun i => some (82 + i)))), .inl (0, 60, (fun _ => 0)), .inl (0, 60, (fun _ => 0)), .inl (0, 20, (fun _ => 0))]) (q := 65) rfl rfl (gA (j := 0) hp rfl rfl) rfl (sA (j := 0) hp rfl rfl) rfl ?_
  refine ar_aload_n (j := 0) (q := 66) rfl rfl rfl rfl ?_
  refine ar_aload_n (j := 1) (q := 67) rfl rfl rfl rfl ?_
  refine ar_putf (hp2 := pre ++ [.inr (.inr (.inr (5, [.int 0, .ref 75, .ref 76, .ref 77, .ref 66, .ref 78, .ref 81, .ref 84, .int 1501]))), .inl (0, 20, (fun _ => 0)), .inl (0, 20, (fun _ => 0)), .inl (0, 20, (fun _ => 0)), .inr (.inr (.inl (2, fun i => some (79 + i)))), .inl (0, 60, (fun _ => 0)), .inl (0, 60, (fun _ => 0)), .inr (.inr (.inl (2, fun i => some (82 + i)))), .inl (0, 60, (fun _ => 0)), .inl (0, 60, (fun _ => 0)), .inl (0, 20, (fun _ => 0))]) (q := 70) rfl rfl (gA (j := 0) hp rfl rfl) rfl (sA (j := 0) hp rfl rfl) rfl ?_
  refine ar_aload_n (j := 0) (q := 71) rfl rfl rfl rfl ?_
  refine ar_getf (v := .ref 81) (q := 74) rfl rfl (gA (j := 0) hp rfl rfl) rfl rfl ?_
  refine ar_iconst (v := 0) (q := 75) rfl rfl rfl ?_
  refine ar_aald (c2 := 82) (q := 76) rfl (gA (j := 7) hp rfl rfl) rfl rfl rfl ?_
  refine ar_sipush (v := 1501) (q := 79) rfl rfl rfl ?_
  refine ar_invs (as := [.ref 82, .int 1501]) (rest := []) (b2 := (0, 0)) (b3 := (0, 0)) (q := 82) rfl rfl rfl rfl rfl rfl rfl rfl rfl ?_
  refine ok_fill (by omega) (gA (j := 8) hp rfl rfl) (by decide) ?_
  dsimp only
  rw [sA (j := 8) (own2 := [.inr (.inr (.inr (5, [.int 0, .ref 75, .ref 76, .ref 77, .ref 66, .ref 78, .ref 81, .ref 84, .int 1501]))), .inl (0, 20, (fun _ => 0)), .inl (0, 20, (fun _ => 0)), .inl (0, 20, (fun _ => 0)), .inr (.inr (.inl (2, fun i => some (79 + i)))), .inl (0, 60, (fun _ => 0)), .inl (0, 60, (fun _ => 0)), .inr (.inr (.inl (2, fun i => some (82 + i)))), .inl (0, 60, (am_fi (fun _ => 0) 1501 60)), .inl (0, 60, (fun _ => 0)), .inl (0, 20, (fun _ => 0))]) hp rfl rfl]
  show am_Run am_X0 (am_meth d) 75 R 82 [some (.ref 74), some (.ref 66)] [] (pre ++ [.inr (.inr (.inr (5, [.int 0, .ref 75, .ref 76, .ref 77, .ref 66, .ref 78, .ref 81, .ref 84, .int 1501]))), .inl (0, 20, (fun _ => 0)), .inl (0, 20, (fun _ => 0)), .inl (0, 20, (fun _ => 0)), .inr (.inr (.inl (2, fun i => some (79 + i)))), .inl (0, 60, (fun _ => 0)), .inl (0, 60, (fun _ => 0)), .inr (.inr (.inl (2, fun i => some (82 + i)))), .inl (0, 60, (am_fi (fun _ => 0) 1501 60)), .inl (0, 60, (fun _ => 0)), .inl (0, 20, (fun _ => 0))], 0, 0)
  refine ar_aload_n (j := 0) (q := 83) rfl rfl rfl rfl ?_
  refine ar_getf (v := .ref 81) (q := 86) rfl rfl (gA (j := 0) hp rfl rfl) rfl rfl ?_
  refine ar_iconst (v := 1) (q := 87) rfl rfl rfl ?_
  refine ar_aald (c2 := 83) (q := 88) rfl (gA (j := 7) hp rfl rfl) rfl rfl rfl ?_
  refine ar_sipush (v := 1501) (q := 91) rfl rfl rfl ?_
  refine ar_invs (as := [.ref 83, .int 1501]) (rest := []) (b2 := (0, 0)) (b3 := (0, 0)) (q := 94) rfl rfl rfl rfl rfl rfl rfl rfl rfl ?_
  refine ok_fill (by omega) (gA (j := 9) hp rfl rfl) (by decide) ?_
  dsimp only
  rw [sA (j := 9) (own2 := [.inr (.inr (.inr (5, [.int 0, .ref 75, .ref 76, .ref 77, .ref 66, .ref 78, .ref 81, .ref 84, .int 1501]))), .inl (0, 20, (fun _ => 0)), .inl (0, 20, (fun _ => 0)), .inl (0, 20, (fun _ => 0)), .inr (.inr (.inl (2, fun i => some (79 + i)))), .inl (0, 60, (fun _ => 0)), .inl (0, 60, (fun _ => 0)), .inr (.inr (.inl (2, fun i => some (82 + i)))), .inl (0, 60, (am_fi (fun _ => 0) 1501 60)), .inl (0, 60, (am_fi (fun _ => 0) 1501 60)), .inl (0, 20, (fun _ => 0))]) hp rfl rfl]
  show am_Run am_X0 (am_meth d) 75 R 94 [some (.ref 74), some (.ref 66)] [] (pre ++ [.inr (.inr (.inr (5, [.int 0, .ref 75, .ref 76, .ref 77, .ref 66, .ref 78, .ref 81, .ref 84, .int 1501]))), .inl (0, 20, (fun _ => 0)), .inl (0, 20, (fun _ => 0)), .inl (0, 20, (fun _ => 0)), .inr (.inr (.inl (2, fun i => some (79 + i)))), .inl (0, 60, (fun _ => 0)), .inl (0, 60, (fun _ => 0)), .inr (.inr (.inl (2, fun i => some (82 + i)))), .inl (0, 60, (am_fi (fun _ => 0) 1501 60)), .inl (0, 60, (am_fi (fun _ => 0) 1501 60)), .inl (0, 20, (fun _ => 0))], 0, 0)
  exact ar_vret rfl rfl h
set_option maxRecDepth 20000 in
theorem n_Terms85 {d : Nat} {R : am_R} {pre : List am_C} (hd : 1 ≤ d) (hp : pre.length = 85) (h : R none (pre ++ [.inr (.inr (.inr (9, [.int 0, .ref 86, .ref 87, .ref 88, .ref 89, .ref 90]))), .inl (0, 30, (fun _ => 0)), .inl (0, 30, (fun _ => 0)), .inl (0, 30, (fun _ => 0)), .inl (0, 1800, (fun _ => 0)), .inr (.inl (60, (fun _ => 0)))], 0, 0)) : am_meth d 125 [.ref 85] (pre ++ [.inr (.inr (.inr (9, [.int 0, .null, .null, .null, .null, .null])))], 5, 1950) R := by
  obtain ⟨d, rfl⟩ : ∃ e, d = e + 1 := ⟨d - 1, by omega⟩
  refine ar_in (ls := [some (.ref 85)]) rfl rfl rfl ?_
  refine ar_aload_n (j := 0) (q := 1) rfl rfl rfl rfl ?_
  refine ar_oi (q := 4) rfl rfl (by decide) rfl ?_
  refine ar_aload_n (j := 0) (q := 5) rfl rfl rfl rfl ?_
  refine ar_bipush (v := 30) (q := 7) rfl rfl rfl ?_
  refine ar_newa (t := 0) (m := 30) (n := 86) (hp2 := pre ++ [.inr (.inr (.inr (9, [.int 0, .null, .null, .null, .null, .null]))), .inl (0, 30, (fun _ => 0))]) (b2 := (4, 1920)) (q := 9) (by decide) rfl rfl rfl (lA hp rfl rfl) (aA rfl) rfl rfl ?_
  refine ar_putf (hp2 := pre ++ [.inr (.inr (.inr (9, [.int 0, .ref 86, .null, .null, .null, .null]))), .inl (0, 30, (fun _ => 0))]) (q := 12) rfl rfl (gA (j := 0) hp rfl rfl) rfl (sA (j := 0) hp rfl rfl) rfl ?_
  refine ar_aload_n (j := 0) (q := 13) rfl rfl rfl rfl ?_
  refine ar_bipush (v := 30) (q := 15) rfl rfl rfl ?_
  refine ar_newa (t := 0) (m := 30) (n := 87) (hp2 := pre ++ [.inr (.inr (.inr (9, [.int 0, .ref 86, .null, .null, .null, .null]))), .inl (0, 30, (fun _ => 0)), .inl (0, 30, (fun _ => 0))]) (b2 := (3, 1890)) (q := 17) (by decide) rfl rfl rfl (lA hp rfl rfl) (aA rfl) rfl rfl ?_
  refine ar_putf (hp2 := pre ++ [.inr (.inr (.inr (9, [.int 0, .ref 86, .ref 87, .null, .null, .null]))), .inl (0, 30, (fun _ => 0)), .inl (0, 30, (fun _ => 0))]) (q := 20) rfl rfl (gA (j := 0) hp rfl rfl) rfl (sA (j := 0) hp rfl rfl) rfl ?_
  refine ar_aload_n (j := 0) (q := 21) rfl rfl rfl rfl ?_
  refine ar_bipush (v := 30) (q := 23) rfl rfl rfl ?_
  refine ar_newa (t := 0) (m := 30) (n := 88) (hp2 := pre ++ [.inr (.inr (.inr (9, [.int 0, .ref 86, .ref 87, .null, .null, .null]))), .inl (0, 30, (fun _ => 0)), .inl (0, 30, (fun _ => 0)), .inl (0, 30, (fun _ => 0))]) (b2 := (2, 1860)) (q := 25) (by decide) rfl rfl rfl (lA hp rfl rfl) (aA rfl) rfl rfl ?_
  refine ar_putf (hp2 := pre ++ [.inr (.inr (.inr (9, [.int 0, .ref 86, .ref 87, .ref 88, .null, .null]))), .inl (0, 30, (fun _ => 0)), .inl (0, 30, (fun _ => 0)), .inl (0, 30, (fun _ => 0))]) (q := 28) rfl rfl (gA (j := 0) hp rfl rfl) rfl (sA (j := 0) hp rfl rfl) rfl ?_
  refine ar_aload_n (j := 0) (q := 29) rfl rfl rfl rfl ?_
  refine ar_sipush (v := 1800) (q := 32) rfl rfl rfl ?_
  refine ar_newa (t := 0) (m := 1800) (n := 89) (hp2 := pre ++ [.inr (.inr (.inr (9, [.int 0, .ref 86, .ref 87, .ref 88, .null, .null]))), .inl (0, 30, (fun _ => 0)), .inl (0, 30, (fun _ => 0)), .inl (0, 30, (fun _ => 0)), .inl (0, 1800, (fun _ => 0))]) (b2 := (1, 60)) (q := 34) (by decide) rfl rfl rfl (lA hp rfl rfl) (aA rfl) rfl rfl ?_
  refine ar_putf (hp2 := pre ++ [.inr (.inr (.inr (9, [.int 0, .ref 86, .ref 87, .ref 88, .ref 89, .null]))), .inl (0, 30, (fun _ => 0)), .inl (0, 30, (fun _ => 0)), .inl (0, 30, (fun _ => 0)), .inl (0, 1800, (fun _ => 0))]) (q := 37) rfl rfl (gA (j := 0) hp rfl rfl) rfl (sA (j := 0) hp rfl rfl) rfl ?_
  refine ar_aload_n (j := 0) (q := 38) rfl rfl rfl rfl ?_
  refine ar_bipush (v := 60) (q := 40) rfl rfl rfl ?_
  refine ar_newa (t := 3) (m := 60) (n := 90) (hp2 := pre ++ [.inr (.inr (.inr (9, [.int 0, .ref 86, .ref 87, .ref 88, .ref 89, .null]))), .inl (0, 30, (fun _ => 0)), .inl (0, 30, (fun _ => 0)), .inl (0, 30, (fun _ => 0)), .inl (0, 1800, (fun _ => 0)), .inr (.inl (60, (fun _ => 0)))]) (b2 := (0, 0)) (q := 42) (by decide) rfl rfl rfl (lA hp rfl rfl) (aA rfl) rfl rfl ?_
  refine ar_putf (hp2 := pre ++ [.inr (.inr (.inr (9, [.int 0, .ref 86, .ref 87, .ref 88, .ref 89, .ref 90]))), .inl (0, 30, (fun _ => 0)), .inl (0, 30, (fun _ => 0)), .inl (0, 30, (fun _ => 0)), .inl (0, 1800, (fun _ => 0)), .inr (.inl (60, (fun _ => 0)))]) (q := 45) rfl rfl (gA (j := 0) hp rfl rfl) rfl (sA (j := 0) hp rfl rfl) rfl ?_
  exact ar_vret rfl rfl h
set_option maxRecDepth 20000 in
theorem n_Row91 {d : Nat} {R : am_R} {pre : List am_C} (hd : 2 ≤ d) (hp : pre.length = 91) (h : R none (pre ++ [.inr (.inr (.inr (6, [.int 0, .ref 92]))), .inl (0, 60, (fun _ => 0))], 0, 0)) : am_meth d 85 [.ref 91, .int 60] (pre ++ [.inr (.inr (.inr (6, [.int 0, .null])))], 1, 60) R := by
  obtain ⟨d, rfl⟩ : ∃ e, d = e + 1 := ⟨d - 1, by omega⟩
  refine ar_in (ls := [some (.ref 91), some (.int 60)]) rfl rfl rfl ?_
  refine ar_aload_n (j := 0) (q := 1) rfl rfl rfl rfl ?_
  refine ar_oi (q := 4) rfl rfl (by decide) rfl ?_
  refine ar_aload_n (j := 0) (q := 5) rfl rfl rfl rfl ?_
  refine ar_iload_n (j := 1) (q := 6) rfl rfl rfl rfl ?_
  refine ar_iconst (v := 0) (q := 7) rfl rfl rfl ?_
  refine ar_invs (as := [.int 60, .int 0]) (rest := [.ref 91]) (b2 := (0, 0)) (b3 := (1, 60)) (q := 10) rfl rfl rfl rfl rfl rfl rfl rfl rfl ?_
  obtain ⟨d9, rfl⟩ : ∃ d9, d = d9 + 1 := ⟨d - 1, by omega⟩
  refine ar_maxE (z := 60) (by decide) ?_
  show am_Run am_X0 (am_meth (d9 + 1)) 85 R 10 [some (.ref 91), some (.int 60)] [.int 60, .ref 91] (pre ++ [.inr (.inr (.inr (6, [.int 0, .null])))], 1, 60)
  refine ar_newa (t := 0) (m := 60) (n := 92) (hp2 := pre ++ [.inr (.inr (.inr (6, [.int 0, .null]))), .inl (0, 60, (fun _ => 0))]) (b2 := (0, 0)) (q := 12) (by decide) rfl rfl rfl (lA hp rfl rfl) (aA rfl) rfl rfl ?_
  refine ar_putf (hp2 := pre ++ [.inr (.inr (.inr (6, [.int 0, .ref 92]))), .inl (0, 60, (fun _ => 0))]) (q := 15) rfl rfl (gA (j := 0) hp rfl rfl) rfl (sA (j := 0) hp rfl rfl) rfl ?_
  exact ar_vret rfl rfl h
set_option maxRecDepth 20000 in
theorem n_Text93 {d : Nat} {R : am_R} {pre : List am_C} (hd : 1 ≤ d) (hp : pre.length = 93) (h : R none (pre ++ [.inr (.inr (.inr (10, [.int 0, .ref 94, .ref 91, .int 0, .int 0]))), .inl (0, 60, (fun _ => 0))], 0, 0)) : am_meth d 133 [.ref 93, .ref 91] (pre ++ [.inr (.inr (.inr (10, [.int 0, .null, .null, .int 0, .int 0])))], 1, 60) R := by
  obtain ⟨d, rfl⟩ : ∃ e, d = e + 1 := ⟨d - 1, by omega⟩
  refine ar_in (ls := [some (.ref 93), some (.ref 91)]) rfl rfl rfl ?_
  refine ar_aload_n (j := 0) (q := 1) rfl rfl rfl rfl ?_
  refine ar_oi (q := 4) rfl rfl (by decide) rfl ?_
  refine ar_aload_n (j := 0) (q := 5) rfl rfl rfl rfl ?_
  refine ar_bipush (v := 60) (q := 7) rfl rfl rfl ?_
  refine ar_newa (t := 0) (m := 60) (n := 94) (hp2 := pre ++ [.inr (.inr (.inr (10, [.int 0, .null, .null, .int 0, .int 0]))), .inl (0, 60, (fun _ => 0))]) (b2 := (0, 0)) (q := 9) (by decide) rfl rfl rfl (lA hp rfl rfl) (aA rfl) rfl rfl ?_
  refine ar_putf (hp2 := pre ++ [.inr (.inr (.inr (10, [.int 0, .ref 94, .null, .int 0, .int 0]))), .inl (0, 60, (fun _ => 0))]) (q := 12) rfl rfl (gA (j := 0) hp rfl rfl) rfl (sA (j := 0) hp rfl rfl) rfl ?_
  refine ar_aload_n (j := 0) (q := 13) rfl rfl rfl rfl ?_
  refine ar_aload_n (j := 1) (q := 14) rfl rfl rfl rfl ?_
  refine ar_putf (hp2 := pre ++ [.inr (.inr (.inr (10, [.int 0, .ref 94, .ref 91, .int 0, .int 0]))), .inl (0, 60, (fun _ => 0))]) (q := 17) rfl rfl (gA (j := 0) hp rfl rfl) rfl (sA (j := 0) hp rfl rfl) rfl ?_
  exact ar_vret rfl rfl h
set_option maxRecDepth 20000 in
theorem n_Row95 {d : Nat} {R : am_R} {pre : List am_C} (hd : 2 ≤ d) (hp : pre.length = 95) (h : R none (pre ++ [.inr (.inr (.inr (6, [.int 0, .ref 96]))), .inl (0, 12, (fun _ => 0))], 0, 48)) : am_meth d 85 [.ref 95, .int 12] (pre ++ [.inr (.inr (.inr (6, [.int 0, .null])))], 1, 60) R := by
  obtain ⟨d, rfl⟩ : ∃ e, d = e + 1 := ⟨d - 1, by omega⟩
  refine ar_in (ls := [some (.ref 95), some (.int 12)]) rfl rfl rfl ?_
  refine ar_aload_n (j := 0) (q := 1) rfl rfl rfl rfl ?_
  refine ar_oi (q := 4) rfl rfl (by decide) rfl ?_
  refine ar_aload_n (j := 0) (q := 5) rfl rfl rfl rfl ?_
  refine ar_iload_n (j := 1) (q := 6) rfl rfl rfl rfl ?_
  refine ar_iconst (v := 0) (q := 7) rfl rfl rfl ?_
  refine ar_invs (as := [.int 12, .int 0]) (rest := [.ref 95]) (b2 := (0, 0)) (b3 := (1, 60)) (q := 10) rfl rfl rfl rfl rfl rfl rfl rfl rfl ?_
  obtain ⟨d9, rfl⟩ : ∃ d9, d = d9 + 1 := ⟨d - 1, by omega⟩
  refine ar_maxE (z := 12) (by decide) ?_
  show am_Run am_X0 (am_meth (d9 + 1)) 85 R 10 [some (.ref 95), some (.int 12)] [.int 12, .ref 95] (pre ++ [.inr (.inr (.inr (6, [.int 0, .null])))], 1, 60)
  refine ar_newa (t := 0) (m := 12) (n := 96) (hp2 := pre ++ [.inr (.inr (.inr (6, [.int 0, .null]))), .inl (0, 12, (fun _ => 0))]) (b2 := (0, 48)) (q := 12) (by decide) rfl rfl rfl (lA hp rfl rfl) (aA rfl) rfl rfl ?_
  refine ar_putf (hp2 := pre ++ [.inr (.inr (.inr (6, [.int 0, .ref 96]))), .inl (0, 12, (fun _ => 0))]) (q := 15) rfl rfl (gA (j := 0) hp rfl rfl) rfl (sA (j := 0) hp rfl rfl) rfl ?_
  exact ar_vret rfl rfl h
set_option maxRecDepth 20000 in
theorem n_Row97 {d : Nat} {R : am_R} {pre : List am_C} (hd : 2 ≤ d) (hp : pre.length = 97) (h : R none (pre ++ [.inr (.inr (.inr (6, [.int 0, .ref 98]))), .inl (0, 6, (fun _ => 0))], 0, 54)) : am_meth d 85 [.ref 97, .int 6] (pre ++ [.inr (.inr (.inr (6, [.int 0, .null])))], 1, 60) R := by
  obtain ⟨d, rfl⟩ : ∃ e, d = e + 1 := ⟨d - 1, by omega⟩
  refine ar_in (ls := [some (.ref 97), some (.int 6)]) rfl rfl rfl ?_
  refine ar_aload_n (j := 0) (q := 1) rfl rfl rfl rfl ?_
  refine ar_oi (q := 4) rfl rfl (by decide) rfl ?_
  refine ar_aload_n (j := 0) (q := 5) rfl rfl rfl rfl ?_
  refine ar_iload_n (j := 1) (q := 6) rfl rfl rfl rfl ?_
  refine ar_iconst (v := 0) (q := 7) rfl rfl rfl ?_
  refine ar_invs (as := [.int 6, .int 0]) (rest := [.ref 97]) (b2 := (0, 0)) (b3 := (1, 60)) (q := 10) rfl rfl rfl rfl rfl rfl rfl rfl rfl ?_
  obtain ⟨d9, rfl⟩ : ∃ d9, d = d9 + 1 := ⟨d - 1, by omega⟩
  refine ar_maxE (z := 6) (by decide) ?_
  show am_Run am_X0 (am_meth (d9 + 1)) 85 R 10 [some (.ref 97), some (.int 6)] [.int 6, .ref 97] (pre ++ [.inr (.inr (.inr (6, [.int 0, .null])))], 1, 60)
  refine ar_newa (t := 0) (m := 6) (n := 98) (hp2 := pre ++ [.inr (.inr (.inr (6, [.int 0, .null]))), .inl (0, 6, (fun _ => 0))]) (b2 := (0, 54)) (q := 12) (by decide) rfl rfl rfl (lA hp rfl rfl) (aA rfl) rfl rfl ?_
  refine ar_putf (hp2 := pre ++ [.inr (.inr (.inr (6, [.int 0, .ref 98]))), .inl (0, 6, (fun _ => 0))]) (q := 15) rfl rfl (gA (j := 0) hp rfl rfl) rfl (sA (j := 0) hp rfl rfl) rfl ?_
  exact ar_vret rfl rfl h
set_option maxRecDepth 20000 in
theorem n_Rules99 {d : Nat} {R : am_R} {pre : List am_C} (hd : 3 ≤ d) (hp : pre.length = 99) (h : R none (pre ++ [.inr (.inr (.inr (7, [.ref 2, .ref 16, .ref 42, .ref 66, .ref 74, .ref 85, .ref 100, .ref 101, .int 0]))), .inl (0, 10, (fun _ => 0)), .inl (0, 120, (fun _ => 0))], 0, 54)) : am_meth d 91 [.ref 99, .ref 2, .ref 16, .ref 42, .ref 66, .ref 74, .ref 85] (pre ++ [.inr (.inr (.inr (7, [.null, .null, .null, .null, .null, .null, .null, .null, .int 0])))], 2, 184) R := by
  obtain ⟨d, rfl⟩ : ∃ e, d = e + 1 := ⟨d - 1, by omega⟩
  refine ar_in (ls := [some (.ref 99), some (.ref 2), some (.ref 16), some (.ref 42), some (.ref 66), some (.ref 74), some (.ref 85)]) rfl rfl rfl ?_
  refine ar_aload_n (j := 0) (q := 1) rfl rfl rfl rfl ?_
  refine ar_oi (q := 4) rfl rfl (by decide) rfl ?_
  refine ar_aload_n (j := 0) (q := 5) rfl rfl rfl rfl ?_
  refine ar_ldcs (q := 7) rfl rfl rfl rfl ?_
  refine ar_invx (as := []) (rest := [.ref 99]) (b2 := (0, 0)) (b3 := (2, 184)) (q := 10) rfl rfl rfl rfl rfl rfl rfl rfl rfl ?_
  refine gok_Str_length (by omega) ?_
  show am_Run am_X0 (am_meth d) 91 R 10 [some (.ref 99), some (.ref 2), some (.ref 16), some (.ref 42), some (.ref 66), some (.ref 74), some (.ref 85)] [.int 10, .ref 99] (pre ++ [.inr (.inr (.inr (7, [.null, .null, .null, .null, .null, .null, .null, .null, .int 0])))], 2, 184)
  refine ar_newa (t := 0) (m := 10) (n := 100) (hp2 := pre ++ [.inr (.inr (.inr (7, [.null, .null, .null, .null, .null, .null, .null, .null, .int 0]))), .inl (0, 10, (fun _ => 0))]) (b2 := (1, 174)) (q := 12) (by decide) rfl rfl rfl (lA hp rfl rfl) (aA rfl) rfl rfl ?_
  refine ar_putf (hp2 := pre ++ [.inr (.inr (.inr (7, [.null, .null, .null, .null, .null, .null, .ref 100, .null, .int 0]))), .inl (0, 10, (fun _ => 0))]) (q := 15) rfl rfl (gA (j := 0) hp rfl rfl) rfl (sA (j := 0) hp rfl rfl) rfl ?_
  refine ar_aload_n (j := 0) (q := 16) rfl rfl rfl rfl ?_
  refine ar_bipush (v := 120) (q := 18) rfl rfl rfl ?_
  refine ar_newa (t := 0) (m := 120) (n := 101) (hp2 := pre ++ [.inr (.inr (.inr (7, [.null, .null, .null, .null, .null, .null, .ref 100, .null, .int 0]))), .inl (0, 10, (fun _ => 0)), .inl (0, 120, (fun _ => 0))]) (b2 := (0, 54)) (q := 20) (by decide) rfl rfl rfl (lA hp rfl rfl) (aA rfl) rfl rfl ?_
  refine ar_putf (hp2 := pre ++ [.inr (.inr (.inr (7, [.null, .null, .null, .null, .null, .null, .ref 100, .ref 101, .int 0]))), .inl (0, 10, (fun _ => 0)), .inl (0, 120, (fun _ => 0))]) (q := 23) rfl rfl (gA (j := 0) hp rfl rfl) rfl (sA (j := 0) hp rfl rfl) rfl ?_
  refine ar_aload_n (j := 0) (q := 24) rfl rfl rfl rfl ?_
  refine ar_aload_n (j := 1) (q := 25) rfl rfl rfl rfl ?_
  refine ar_putf (hp2 := pre ++ [.inr (.inr (.inr (7, [.ref 2, .null, .null, .null, .null, .null, .ref 100, .ref 101, .int 0]))), .inl (0, 10, (fun _ => 0)), .inl (0, 120, (fun _ => 0))]) (q := 28) rfl rfl (gA (j := 0) hp rfl rfl) rfl (sA (j := 0) hp rfl rfl) rfl ?_
  refine ar_aload_n (j := 0) (q := 29) rfl rfl rfl rfl ?_
  refine ar_aload_n (j := 2) (q := 30) rfl rfl rfl rfl ?_
  refine ar_putf (hp2 := pre ++ [.inr (.inr (.inr (7, [.ref 2, .ref 16, .null, .null, .null, .null, .ref 100, .ref 101, .int 0]))), .inl (0, 10, (fun _ => 0)), .inl (0, 120, (fun _ => 0))]) (q := 33) rfl rfl (gA (j := 0) hp rfl rfl) rfl (sA (j := 0) hp rfl rfl) rfl ?_
  refine ar_aload_n (j := 0) (q := 34) rfl rfl rfl rfl ?_
  refine ar_aload_n (j := 3) (q := 35) rfl rfl rfl rfl ?_
  refine ar_putf (hp2 := pre ++ [.inr (.inr (.inr (7, [.ref 2, .ref 16, .ref 42, .null, .null, .null, .ref 100, .ref 101, .int 0]))), .inl (0, 10, (fun _ => 0)), .inl (0, 120, (fun _ => 0))]) (q := 38) rfl rfl (gA (j := 0) hp rfl rfl) rfl (sA (j := 0) hp rfl rfl) rfl ?_
  refine ar_aload_n (j := 0) (q := 39) rfl rfl rfl rfl ?_
  refine ar_aload (q := 41) rfl rfl rfl ?_
  refine ar_putf (hp2 := pre ++ [.inr (.inr (.inr (7, [.ref 2, .ref 16, .ref 42, .ref 66, .null, .null, .ref 100, .ref 101, .int 0]))), .inl (0, 10, (fun _ => 0)), .inl (0, 120, (fun _ => 0))]) (q := 44) rfl rfl (gA (j := 0) hp rfl rfl) rfl (sA (j := 0) hp rfl rfl) rfl ?_
  refine ar_aload_n (j := 0) (q := 45) rfl rfl rfl rfl ?_
  refine ar_aload (q := 47) rfl rfl rfl ?_
  refine ar_putf (hp2 := pre ++ [.inr (.inr (.inr (7, [.ref 2, .ref 16, .ref 42, .ref 66, .ref 74, .null, .ref 100, .ref 101, .int 0]))), .inl (0, 10, (fun _ => 0)), .inl (0, 120, (fun _ => 0))]) (q := 50) rfl rfl (gA (j := 0) hp rfl rfl) rfl (sA (j := 0) hp rfl rfl) rfl ?_
  refine ar_aload_n (j := 0) (q := 51) rfl rfl rfl rfl ?_
  refine ar_aload (q := 53) rfl rfl rfl ?_
  refine ar_putf (hp2 := pre ++ [.inr (.inr (.inr (7, [.ref 2, .ref 16, .ref 42, .ref 66, .ref 74, .ref 85, .ref 100, .ref 101, .int 0]))), .inl (0, 10, (fun _ => 0)), .inl (0, 120, (fun _ => 0))]) (q := 56) rfl rfl (gA (j := 0) hp rfl rfl) rfl (sA (j := 0) hp rfl rfl) rfl ?_
  exact ar_vret rfl rfl h
set_option maxRecDepth 20000 in
theorem n_Chain102 {d : Nat} {R : am_R} {pre : List am_C} (hd : 1 ≤ d) (hp : pre.length = 102) (h : R none (pre ++ [.inr (.inr (.inr (1, [.int 0, .int 0, .ref 66, .ref 99, .ref 103, .ref 104, .ref 105, .int 0]))), .inl (0, 10, (fun _ => 0)), .inl (0, 10, (fun _ => 0)), .inl (0, 11, (fun _ => 0))], 0, 0)) : am_meth d 43 [.ref 102, .ref 66, .ref 99] (pre ++ [.inr (.inr (.inr (1, [.int 0, .int 0, .null, .null, .null, .null, .null, .int 0])))], 3, 31) R := by
  obtain ⟨d, rfl⟩ : ∃ e, d = e + 1 := ⟨d - 1, by omega⟩
  refine ar_in (ls := [some (.ref 102), some (.ref 66), some (.ref 99)]) rfl rfl rfl ?_
  refine ar_aload_n (j := 0) (q := 1) rfl rfl rfl rfl ?_
  refine ar_oi (q := 4) rfl rfl (by decide) rfl ?_
  refine ar_aload_n (j := 0) (q := 5) rfl rfl rfl rfl ?_
  refine ar_bipush (v := 10) (q := 7) rfl rfl rfl ?_
  refine ar_newa (t := 0) (m := 10) (n := 103) (hp2 := pre ++ [.inr (.inr (.inr (1, [.int 0, .int 0, .null, .null, .null, .null, .null, .int 0]))), .inl (0, 10, (fun _ => 0))]) (b2 := (2, 21)) (q := 9) (by decide) rfl rfl rfl (lA hp rfl rfl) (aA rfl) rfl rfl ?_
  refine ar_putf (hp2 := pre ++ [.inr (.inr (.inr (1, [.int 0, .int 0, .null, .null, .ref 103, .null, .null, .int 0]))), .inl (0, 10, (fun _ => 0))]) (q := 12) rfl rfl (gA (j := 0) hp rfl rfl) rfl (sA (j := 0) hp rfl rfl) rfl ?_
  refine ar_aload_n (j := 0) (q := 13) rfl rfl rfl rfl ?_
  refine ar_bipush (v := 10) (q := 15) rfl rfl rfl ?_
  refine ar_newa (t := 0) (m := 10) (n := 104) (hp2 := pre ++ [.inr (.inr (.inr (1, [.int 0, .int 0, .null, .null, .ref 103, .null, .null, .int 0]))), .inl (0, 10, (fun _ => 0)), .inl (0, 10, (fun _ => 0))]) (b2 := (1, 11)) (q := 17) (by decide) rfl rfl rfl (lA hp rfl rfl) (aA rfl) rfl rfl ?_
  refine ar_putf (hp2 := pre ++ [.inr (.inr (.inr (1, [.int 0, .int 0, .null, .null, .ref 103, .ref 104, .null, .int 0]))), .inl (0, 10, (fun _ => 0)), .inl (0, 10, (fun _ => 0))]) (q := 20) rfl rfl (gA (j := 0) hp rfl rfl) rfl (sA (j := 0) hp rfl rfl) rfl ?_
  refine ar_aload_n (j := 0) (q := 21) rfl rfl rfl rfl ?_
  refine ar_bipush (v := 11) (q := 23) rfl rfl rfl ?_
  refine ar_newa (t := 0) (m := 11) (n := 105) (hp2 := pre ++ [.inr (.inr (.inr (1, [.int 0, .int 0, .null, .null, .ref 103, .ref 104, .null, .int 0]))), .inl (0, 10, (fun _ => 0)), .inl (0, 10, (fun _ => 0)), .inl (0, 11, (fun _ => 0))]) (b2 := (0, 0)) (q := 25) (by decide) rfl rfl rfl (lA hp rfl rfl) (aA rfl) rfl rfl ?_
  refine ar_putf (hp2 := pre ++ [.inr (.inr (.inr (1, [.int 0, .int 0, .null, .null, .ref 103, .ref 104, .ref 105, .int 0]))), .inl (0, 10, (fun _ => 0)), .inl (0, 10, (fun _ => 0)), .inl (0, 11, (fun _ => 0))]) (q := 28) rfl rfl (gA (j := 0) hp rfl rfl) rfl (sA (j := 0) hp rfl rfl) rfl ?_
  refine ar_aload_n (j := 0) (q := 29) rfl rfl rfl rfl ?_
  refine ar_aload_n (j := 1) (q := 30) rfl rfl rfl rfl ?_
  refine ar_putf (hp2 := pre ++ [.inr (.inr (.inr (1, [.int 0, .int 0, .ref 66, .null, .ref 103, .ref 104, .ref 105, .int 0]))), .inl (0, 10, (fun _ => 0)), .inl (0, 10, (fun _ => 0)), .inl (0, 11, (fun _ => 0))]) (q := 33) rfl rfl (gA (j := 0) hp rfl rfl) rfl (sA (j := 0) hp rfl rfl) rfl ?_
  refine ar_aload_n (j := 0) (q := 34) rfl rfl rfl rfl ?_
  refine ar_aload_n (j := 2) (q := 35) rfl rfl rfl rfl ?_
  refine ar_putf (hp2 := pre ++ [.inr (.inr (.inr (1, [.int 0, .int 0, .ref 66, .ref 99, .ref 103, .ref 104, .ref 105, .int 0]))), .inl (0, 10, (fun _ => 0)), .inl (0, 10, (fun _ => 0)), .inl (0, 11, (fun _ => 0))]) (q := 38) rfl rfl (gA (j := 0) hp rfl rfl) rfl (sA (j := 0) hp rfl rfl) rfl ?_
  exact ar_vret rfl rfl h
set_option maxRecDepth 20000 in
theorem n_Match106 {d : Nat} {R : am_R} {pre : List am_C} (hd : 1 ≤ d) (hp : pre.length = 106) (h : R none (pre ++ [.inr (.inr (.inr (4, [.ref 107, .int 0, .int 0, .ref 16, .ref 66, .ref 74, .ref 99, .ref 108, .ref 109, .int 0, .ref 110, .ref 111, .ref 112]))), .inl (0, 6, (fun _ => 0)), .inl (0, 6, (fun _ => 0)), .inl (0, 6, (fun _ => 0)), .inl (0, 20, (fun _ => 0)), .inl (0, 6, (fun _ => 0)), .inr (.inl (64, (fun _ => 0)))], 0, 0)) : am_meth d 59 [.ref 106, .ref 16, .ref 66, .ref 74, .ref 99] (pre ++ [.inr (.inr (.inr (4, [.null, .int 0, .int 0, .null, .null, .null, .null, .null, .null, .int 0, .null, .null, .null])))], 6, 108) R := by
  obtain ⟨d, rfl⟩ : ∃ e, d = e + 1 := ⟨d - 1, by omega⟩
  refine ar_in (ls := [some (.ref 106), some (.ref 16), some (.ref 66), some (.ref 74), some (.ref 99)]) rfl rfl rfl ?_
  refine ar_aload_n (j := 0) (q := 1) rfl rfl rfl rfl ?_
  refine ar_oi (q := 4) rfl rfl (by decide) rfl ?_
  refine ar_aload_n (j := 0) (q := 5) rfl rfl rfl rfl ?_
  refine ar_bipush (v := 6) (q := 7) rfl rfl rfl ?_
  refine ar_newa (t := 0) (m := 6) (n := 107) (hp2 := pre ++ [.inr (.inr (.inr (4, [.null, .int 0, .int 0, .null, .null, .null, .null, .null, .null, .int 0, .null, .null, .null]))), .inl (0, 6, (fun _ => 0))]) (b2 := (5, 102)) (q := 9) (by decide) rfl rfl rfl (lA hp rfl rfl) (aA rfl) rfl rfl ?_
  refine ar_putf (hp2 := pre ++ [.inr (.inr (.inr (4, [.ref 107, .int 0, .int 0, .null, .null, .null, .null, .null, .null, .int 0, .null, .null, .null]))), .inl (0, 6, (fun _ => 0))]) (q := 12) rfl rfl (gA (j := 0) hp rfl rfl) rfl (sA (j := 0) hp rfl rfl) rfl ?_
  refine ar_aload_n (j := 0) (q := 13) rfl rfl rfl rfl ?_
  refine ar_bipush (v := 6) (q := 15) rfl rfl rfl ?_
  refine ar_newa (t := 0) (m := 6) (n := 108) (hp2 := pre ++ [.inr (.inr (.inr (4, [.ref 107, .int 0, .int 0, .null, .null, .null, .null, .null, .null, .int 0, .null, .null, .null]))), .inl (0, 6, (fun _ => 0)), .inl (0, 6, (fun _ => 0))]) (b2 := (4, 96)) (q := 17) (by decide) rfl rfl rfl (lA hp rfl rfl) (aA rfl) rfl rfl ?_
  refine ar_putf (hp2 := pre ++ [.inr (.inr (.inr (4, [.ref 107, .int 0, .int 0, .null, .null, .null, .null, .ref 108, .null, .int 0, .null, .null, .null]))), .inl (0, 6, (fun _ => 0)), .inl (0, 6, (fun _ => 0))]) (q := 20) rfl rfl (gA (j := 0) hp rfl rfl) rfl (sA (j := 0) hp rfl rfl) rfl ?_
  refine ar_aload_n (j := 0) (q := 21) rfl rfl rfl rfl ?_
  refine ar_bipush (v := 6) (q := 23) rfl rfl rfl ?_
  refine ar_newa (t := 0) (m := 6) (n := 109) (hp2 := pre ++ [.inr (.inr (.inr (4, [.ref 107, .int 0, .int 0, .null, .null, .null, .null, .ref 108, .null, .int 0, .null, .null, .null]))), .inl (0, 6, (fun _ => 0)), .inl (0, 6, (fun _ => 0)), .inl (0, 6, (fun _ => 0))]) (b2 := (3, 90)) (q := 25) (by decide) rfl rfl rfl (lA hp rfl rfl) (aA rfl) rfl rfl ?_
  refine ar_putf (hp2 := pre ++ [.inr (.inr (.inr (4, [.ref 107, .int 0, .int 0, .null, .null, .null, .null, .ref 108, .ref 109, .int 0, .null, .null, .null]))), .inl (0, 6, (fun _ => 0)), .inl (0, 6, (fun _ => 0)), .inl (0, 6, (fun _ => 0))]) (q := 28) rfl rfl (gA (j := 0) hp rfl rfl) rfl (sA (j := 0) hp rfl rfl) rfl ?_
  refine ar_aload_n (j := 0) (q := 29) rfl rfl rfl rfl ?_
  refine ar_bipush (v := 20) (q := 31) rfl rfl rfl ?_
  refine ar_newa (t := 0) (m := 20) (n := 110) (hp2 := pre ++ [.inr (.inr (.inr (4, [.ref 107, .int 0, .int 0, .null, .null, .null, .null, .ref 108, .ref 109, .int 0, .null, .null, .null]))), .inl (0, 6, (fun _ => 0)), .inl (0, 6, (fun _ => 0)), .inl (0, 6, (fun _ => 0)), .inl (0, 20, (fun _ => 0))]) (b2 := (2, 70)) (q := 33) (by decide) rfl rfl rfl (lA hp rfl rfl) (aA rfl) rfl rfl ?_
  refine ar_putf (hp2 := pre ++ [.inr (.inr (.inr (4, [.ref 107, .int 0, .int 0, .null, .null, .null, .null, .ref 108, .ref 109, .int 0, .ref 110, .null, .null]))), .inl (0, 6, (fun _ => 0)), .inl (0, 6, (fun _ => 0)), .inl (0, 6, (fun _ => 0)), .inl (0, 20, (fun _ => 0))]) (q := 36) rfl rfl (gA (j := 0) hp rfl rfl) rfl (sA (j := 0) hp rfl rfl) rfl ?_
  refine ar_aload_n (j := 0) (q := 37) rfl rfl rfl rfl ?_
  refine ar_bipush (v := 6) (q := 39) rfl rfl rfl ?_
  refine ar_newa (t := 0) (m := 6) (n := 111) (hp2 := pre ++ [.inr (.inr (.inr (4, [.ref 107, .int 0, .int 0, .null, .null, .null, .null, .ref 108, .ref 109, .int 0, .ref 110, .null, .null]))), .inl (0, 6, (fun _ => 0)), .inl (0, 6, (fun _ => 0)), .inl (0, 6, (fun _ => 0)), .inl (0, 20, (fun _ => 0)), .inl (0, 6, (fun _ => 0))]) (b2 := (1, 64)) (q := 41) (by decide) rfl rfl rfl (lA hp rfl rfl) (aA rfl) rfl rfl ?_
  refine ar_putf (hp2 := pre ++ [.inr (.inr (.inr (4, [.ref 107, .int 0, .int 0, .null, .null, .null, .null, .ref 108, .ref 109, .int 0, .ref 110, .ref 111, .null]))), .inl (0, 6, (fun _ => 0)), .inl (0, 6, (fun _ => 0)), .inl (0, 6, (fun _ => 0)), .inl (0, 20, (fun _ => 0)), .inl (0, 6, (fun _ => 0))]) (q := 44) rfl rfl (gA (j := 0) hp rfl rfl) rfl (sA (j := 0) hp rfl rfl) rfl ?_
  refine ar_aload_n (j := 0) (q := 45) rfl rfl rfl rfl ?_
  refine ar_bipush (v := 64) (q := 47) rfl rfl rfl ?_
  refine ar_newa (t := 3) (m := 64) (n := 112) (hp2 := pre ++ [.inr (.inr (.inr (4, [.ref 107, .int 0, .int 0, .null, .null, .null, .null, .ref 108, .ref 109, .int 0, .ref 110, .ref 111, .null]))), .inl (0, 6, (fun _ => 0)), .inl (0, 6, (fun _ => 0)), .inl (0, 6, (fun _ => 0)), .inl (0, 20, (fun _ => 0)), .inl (0, 6, (fun _ => 0)), .inr (.inl (64, (fun _ => 0)))]) (b2 := (0, 0)) (q := 49) (by decide) rfl rfl rfl (lA hp rfl rfl) (aA rfl) rfl rfl ?_
  refine ar_putf (hp2 := pre ++ [.inr (.inr (.inr (4, [.ref 107, .int 0, .int 0, .null, .null, .null, .null, .ref 108, .ref 109, .int 0, .ref 110, .ref 111, .ref 112]))), .inl (0, 6, (fun _ => 0)), .inl (0, 6, (fun _ => 0)), .inl (0, 6, (fun _ => 0)), .inl (0, 20, (fun _ => 0)), .inl (0, 6, (fun _ => 0)), .inr (.inl (64, (fun _ => 0)))]) (q := 52) rfl rfl (gA (j := 0) hp rfl rfl) rfl (sA (j := 0) hp rfl rfl) rfl ?_
  refine ar_aload_n (j := 0) (q := 53) rfl rfl rfl rfl ?_
  refine ar_aload_n (j := 1) (q := 54) rfl rfl rfl rfl ?_
  refine ar_putf (hp2 := pre ++ [.inr (.inr (.inr (4, [.ref 107, .int 0, .int 0, .ref 16, .null, .null, .null, .ref 108, .ref 109, .int 0, .ref 110, .ref 111, .ref 112]))), .inl (0, 6, (fun _ => 0)), .inl (0, 6, (fun _ => 0)), .inl (0, 6, (fun _ => 0)), .inl (0, 20, (fun _ => 0)), .inl (0, 6, (fun _ => 0)), .inr (.inl (64, (fun _ => 0)))]) (q := 57) rfl rfl (gA (j := 0) hp rfl rfl) rfl (sA (j := 0) hp rfl rfl) rfl ?_
  refine ar_aload_n (j := 0) (q := 58) rfl rfl rfl rfl ?_
  refine ar_aload_n (j := 2) (q := 59) rfl rfl rfl rfl ?_
  refine ar_putf (hp2 := pre ++ [.inr (.inr (.inr (4, [.ref 107, .int 0, .int 0, .ref 16, .ref 66, .null, .null, .ref 108, .ref 109, .int 0, .ref 110, .ref 111, .ref 112]))), .inl (0, 6, (fun _ => 0)), .inl (0, 6, (fun _ => 0)), .inl (0, 6, (fun _ => 0)), .inl (0, 20, (fun _ => 0)), .inl (0, 6, (fun _ => 0)), .inr (.inl (64, (fun _ => 0)))]) (q := 62) rfl rfl (gA (j := 0) hp rfl rfl) rfl (sA (j := 0) hp rfl rfl) rfl ?_
  refine ar_aload_n (j := 0) (q := 63) rfl rfl rfl rfl ?_
  refine ar_aload_n (j := 3) (q := 64) rfl rfl rfl rfl ?_
  refine ar_putf (hp2 := pre ++ [.inr (.inr (.inr (4, [.ref 107, .int 0, .int 0, .ref 16, .ref 66, .ref 74, .null, .ref 108, .ref 109, .int 0, .ref 110, .ref 111, .ref 112]))), .inl (0, 6, (fun _ => 0)), .inl (0, 6, (fun _ => 0)), .inl (0, 6, (fun _ => 0)), .inl (0, 20, (fun _ => 0)), .inl (0, 6, (fun _ => 0)), .inr (.inl (64, (fun _ => 0)))]) (q := 67) rfl rfl (gA (j := 0) hp rfl rfl) rfl (sA (j := 0) hp rfl rfl) rfl ?_
  refine ar_aload_n (j := 0) (q := 68) rfl rfl rfl rfl ?_
  refine ar_aload (q := 70) rfl rfl rfl ?_
  refine ar_putf (hp2 := pre ++ [.inr (.inr (.inr (4, [.ref 107, .int 0, .int 0, .ref 16, .ref 66, .ref 74, .ref 99, .ref 108, .ref 109, .int 0, .ref 110, .ref 111, .ref 112]))), .inl (0, 6, (fun _ => 0)), .inl (0, 6, (fun _ => 0)), .inl (0, 6, (fun _ => 0)), .inl (0, 20, (fun _ => 0)), .inl (0, 6, (fun _ => 0)), .inr (.inl (64, (fun _ => 0)))]) (q := 73) rfl rfl (gA (j := 0) hp rfl rfl) rfl (sA (j := 0) hp rfl rfl) rfl ?_
  exact ar_vret rfl rfl h
