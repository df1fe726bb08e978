/-! the law answers 1 on the plain machine -/
theorem z_n (c j : Nat) (h : am_I2 c j = 0) : am_n am_I2 c j = 0 := by unfold am_n; rw [h]; rfl
theorem RC_1 : RC am_I2 am_I2 := by
  refine ⟨⟨rfl, rfl, rfl, rfl, rfl, rfl, rfl, rfl⟩, ⟨rfl, rfl, rfl, rfl, rfl, rfl, rfl, rfl, rfl, rfl, rfl, rfl, rfl, rfl, rfl, rfl, rfl⟩, ⟨?_, ?_, ?_, ?_, ?_⟩, ⟨?_, rfl⟩, Or.inl rfl, ?_, ?_⟩
  · intro a b ha hb
    have : ∀ a, a < 10 → ∀ b, b < 10 → am_r10 am_I2 a b = am_I2 115 (10 * a + b) := by decide +kernel
    exact this a ha b hb
  · intro a b ha hb
    have : ∀ a, a < 20 → ∀ b, b < 5 → am_r20 am_I2 a b = am_I2 121 (5 * a + b) := by decide +kernel
    exact this a ha b hb
  · intro a b ha hb
    have : ∀ a, a < 20 → ∀ b, b < 31 → am_q20 am_I2 a b = am_I2 124 (31 * a + b) := by decide +kernel
    exact this a ha b hb
  · decide +kernel
  · decide +kernel
  · decide +kernel
  · intro j hj
    exact ⟨0, by decide, rfl, rfl⟩
  · intro t ht
    rw [z_n 113 25 rfl] at ht; exact absurd ht (Nat.not_lt_zero t)
theorem Inv_1 : Inv am_I2 := by
  refine ⟨?_, ⟨?_, ?_, ?_⟩, ?_, ⟨?_, ?_⟩, ?_, ⟨?_, ?_⟩, ⟨?_, ?_, ?_⟩, ?_⟩
  · unfold Nn am_ix; decide +kernel
  · unfold am_ix; decide +kernel
  · unfold am_ix; decide +kernel
  · unfold am_ix; decide +kernel
  · unfold Nk am_ix; decide +kernel
  · unfold am_ix; decide +kernel
  · intro s hs
    rw [z_n 113 14 rfl] at hs; exact absurd hs (Nat.not_lt_zero s)
  · intro s s' hs
    rw [z_n 113 14 rfl] at hs; exact absurd hs (Nat.not_lt_zero s)
  · intro r hr
    refine ⟨?_, fun z => absurd rfl z⟩
    have : ∀ r, r < 120 → am_ix am_I2 130 r 6 := by unfold am_ix; decide +kernel
    exact this r hr
  · decide +kernel
  · unfold am_ix; decide +kernel
  · unfold am_ix; decide +kernel
  · intro t ht
    rw [z_n 113 25 rfl] at ht; exact absurd ht (Nat.not_lt_zero t)
  · unfold Nd am_ix; decide +kernel
theorem Rel_1 : RelE am_I2 := ⟨am_I2, RC_1, ⟨fun _ _ => rfl, fun _ _ => rfl⟩, Inv_1⟩
set_option maxRecDepth 20000 in
theorem am_goal : am_Goal := by
  intro N xs hN
  show am_Run (some (N, xs)) (am_meth 60) 258 (fun v _ => v = some (.int 1)) 0 [some (.float 0), none, none, none] [] ([], 600000, 7302250)
  refine ar_new (n := 0) (hp2 := [.inr (.inr (.inr (0, [.null, .null, .null, .null, .null, .null, .null, .null, .null, .null, .null, .null, .null, .null])))]) (b2 := (599999, 7302236)) (q := 3) rfl rfl rfl rfl rfl rfl rfl ?_
  refine ar_st (i := .dup) (n := 1) (st' := [.ref 0, .ref 0]) (q := 4) rfl rfl rfl rfl ?_
  refine ar_invi (as := []) (rest := [.ref 0]) (b2 := (112, 4347)) (b3 := (599887, 7297889)) (q := 7) rfl (by decide) rfl rfl rfl rfl rfl rfl rfl rfl ?_
  refine n_H (by decide) ?_
  show am_Run (some (N, xs)) (am_meth 60) 258 (fun v _ => v = some (.int 1)) 7 [some (.float 0), none, none, none] [.ref 0] ((am_mk am_I1 am_L1).take 113, 599887, 7297889)
  refine ar_astore_n (j := 1) (ls' := [some (.float 0), some (.ref 0), none, none]) (q := 8) rfl rfl rfl rfl rfl ?_
  refine ar_new (n := 113) (hp2 := (am_mk am_I1 am_L1).take 113 ++ [.inr (.inr (.inr (12, [.int 0, .null, .null, .null, .int 0, .null, .null, .null, .null, .null, .int 0, .null, .null, .null, .int 0, .null, .null, .null, .null, .null, .null, .null, .null, .null, .int 0, .int 0, .null, .null, .null, .null, .null, .null, .null, .null, .null, .null, .null, .null, .null, .int 0, .null, .int 0, .null, .null, .null, .null, .null, .null, .null, .null, .int 0, .int 0, .null])))]) (b2 := (599886, 7297836)) (q := 11) rfl rfl rfl rfl rfl rfl rfl ?_
  refine ar_st (i := .dup) (n := 1) (st' := [.ref 113, .ref 113]) (q := 12) rfl rfl rfl rfl ?_
  refine ar_invi (as := []) (rest := [.ref 113]) (b2 := (43, 5450)) (b3 := (599843, 7292386)) (q := 15) rfl (by decide) rfl rfl rfl rfl rfl rfl rfl rfl ?_
  refine n_M (by decide) ?_
  show am_Run (some (N, xs)) (am_meth 60) 258 (fun v _ => v = some (.int 1)) 15 [some (.float 0), some (.ref 0), none, none] [.ref 113] (am_mk am_I2 am_L1, 599843, 7292386)
  refine ar_astore_n (j := 2) (ls' := [some (.float 0), some (.ref 0), some (.ref 113), none]) (q := 16) rfl rfl rfl rfl rfl ?_
  refine ar_iconst (v := 0) (q := 17) rfl rfl rfl ?_
  refine ar_istore_n (j := 3) (ls' := [some (.float 0), some (.ref 0), some (.ref 113), some (.int 0)]) (q := 18) rfl rfl rfl rfl rfl ?_
  exact lw_loop hN 512 0 am_I2 am_L1 (by omega) (by omega) Rel_1
