theorem lw_gt {N s : Nat} (hN : N ≤ 2560) (hs : s ≤ N + 5) (h : ¬ s + 5 ≤ N) : nI N - 5 < nI s := by
  rw [Int32.lt_iff_toInt_lt, nI_toInt (by omega), Int32.toInt_sub, nI_toInt (by omega), show Int32.toInt 5 = 5 from rfl]
  rw [Int.bmod_eq_of_le (by omega) (by omega)]
  omega
theorem lw_le {N s : Nat} (hN : N ≤ 2560) (h : s + 5 ≤ N) : ¬ nI N - 5 < nI s := by
  rw [Int32.lt_iff_toInt_lt, nI_toInt (by omega), Int32.toInt_sub, nI_toInt (by omega), show Int32.toInt 5 = 5 from rfl]
  rw [Int.bmod_eq_of_le (by omega) (by omega)]
  omega
/-! the law's loop -/
theorem ar_slen {X : am_X} {d k pc q : Nat} {R : am_R} {ls : am_L} {st : List Value} {mem : am_M} {x : Nat × (Nat → Int32)} (hX : X = some x) (hc : am_code k pc = some (.arraylength, 1)) (hq : pc + 1 = q) (h : am_Run X (am_meth d) k R q ls (.int (nI x.1) :: st) mem) : am_Run X (am_meth d) k R pc ls (.float 0 :: st) mem := by
  subst hq; subst hX
  refine ar_go (c := (pc + 1, ls, .int (nI x.1) :: st, mem)) hc rfl ?_ h
  simp only [am_step, am_ib, am_lb, am_misc, am_alen]; rfl
set_option maxRecDepth 20000 in
theorem lw_loop {N : Nat} {xs : Nat → Int32} {b : Nat × Nat} (hN : N ≤ 2560) : ∀ f s (I : am_V) (L : Nat → Nat → Int64), N ≤ s + 5 * f → s ≤ N + 5 → RelE I → am_Run (some (N, xs)) (am_meth 60) 258 (fun v _ => v = some (.int 1)) 18 [some (.float 0), some (.ref 0), some (.ref 113), some (.int (nI s))] [] (am_mk I L, b) := by
  intro f
  induction f with
  | zero =>
    intro s I L hf hs hR
    refine ar_iload_n (j := 3) (q := 19) rfl rfl rfl rfl ?_
    refine ar_aload_nx (j := 0) (q := 20) rfl rfl rfl rfl ?_
    refine ar_slen (q := 21) rfl rfl rfl ?_
    refine ar_iconst (v := 5) (q := 22) rfl rfl rfl ?_
    refine ar_ib (i := .isub) (z := nI N - 5) (q := 23) rfl rfl rfl rfl rfl ?_
    refine ar_br (t := 1341) (q := 26) am_c_gt rfl rfl rfl (fun _ => ?_) (fun c => absurd (lw_gt hN (by omega) (by omega)) c)
    refine ar_iconst (v := 1) (q := 1342) rfl rfl rfl ?_
    exact ar_zret rfl rfl (Or.inr rfl) rfl
  | succ f ihf =>
    intro s I L hf hs hR
    refine ar_iload_n (j := 3) (q := 19) rfl rfl rfl rfl ?_
    refine ar_aload_nx (j := 0) (q := 20) rfl rfl rfl rfl ?_
    refine ar_slen (q := 21) rfl rfl rfl ?_
    refine ar_iconst (v := 5) (q := 22) rfl rfl rfl ?_
    refine ar_ib (i := .isub) (z := nI N - 5) (q := 23) rfl rfl rfl rfl rfl ?_
    by_cases h5 : s + 5 ≤ N
    case neg =>
      refine ar_br (t := 1341) (q := 26) am_c_gt rfl rfl rfl (fun _ => ?_) (fun c => absurd (lw_gt hN (by omega) (by omega)) c)
      refine ar_iconst (v := 1) (q := 1342) rfl rfl rfl ?_
      exact ar_zret rfl rfl (Or.inr rfl) rfl
    refine ar_br (t := 1341) (q := 26) am_c_gt rfl rfl rfl (fun c => absurd c (lw_le hN h5)) (fun _ => ?_)
    have nx : ∀ (I : am_V) (L : Nat → Nat → Int64), RelE I → am_Run (some (N, xs)) (am_meth 60) 258 (fun v _ => v = some (.int 1)) 1335 [some (.float 0), some (.ref 0), some (.ref 113), some (.int (nI s))] [] (am_mk I L, b) := by
      intro I L hR
      refine ar_iinc (v := nI (s + 5)) (ls' := [some (.float 0), some (.ref 0), some (.ref 113), some (.int (nI (s + 5)))]) (q := 1338) rfl rfl rfl (nI_add s 5) rfl rfl ?_
      refine ar_goto (t := 18) rfl rfl ?_
      exact ihf (s + 5) I L (by omega) (by omega) hR
    refine ar_aload_nx (j := 0) (q := 27) rfl rfl rfl rfl ?_
    refine ar_iload_n (j := 3) (q := 28) rfl rfl rfl rfl ?_
    refine ar_sld (v := xs s) (q := 29) rfl rfl (am_inE rfl (by omega) (by omega)) (am_clE (n := N) rfl (by omega) (by omega)) rfl ?_
    refine ar_bipush (v := 63) (q := 31) rfl rfl rfl ?_
    refine ar_ib (i := .iand) (z := xs s &&& 63) (q := 32) rfl rfl rfl rfl rfl ?_
    refine ar_tsw (t0 := 1335) rfl rfl (fun _ => nx I L hR) (fun c => ?_)
    rcases (show (xs s &&& 63).toInt = 0 ∨ (xs s &&& 63).toInt = 1 ∨ (xs s &&& 63).toInt = 2 ∨ (xs s &&& 63).toInt = 3 ∨ (xs s &&& 63).toInt = 4 ∨ (xs s &&& 63).toInt = 5 ∨ (xs s &&& 63).toInt = 6 ∨ (xs s &&& 63).toInt = 7 ∨ (xs s &&& 63).toInt = 8 ∨ (xs s &&& 63).toInt = 9 ∨ (xs s &&& 63).toInt = 10 ∨ (xs s &&& 63).toInt = 11 ∨ (xs s &&& 63).toInt = 12 ∨ (xs s &&& 63).toInt = 13 ∨ (xs s &&& 63).toInt = 14 ∨ (xs s &&& 63).toInt = 15 ∨ (xs s &&& 63).toInt = 16 ∨ (xs s &&& 63).toInt = 17 ∨ (xs s &&& 63).toInt = 18 ∨ (xs s &&& 63).toInt = 19 ∨ (xs s &&& 63).toInt = 20 ∨ (xs s &&& 63).toInt = 21 ∨ (xs s &&& 63).toInt = 22 ∨ (xs s &&& 63).toInt = 23 ∨ (xs s &&& 63).toInt = 24 ∨ (xs s &&& 63).toInt = 25 ∨ (xs s &&& 63).toInt = 26 ∨ (xs s &&& 63).toInt = 27 ∨ (xs s &&& 63).toInt = 28 ∨ (xs s &&& 63).toInt = 29 ∨ (xs s &&& 63).toInt = 30 ∨ (xs s &&& 63).toInt = 31 ∨ (xs s &&& 63).toInt = 32 ∨ (xs s &&& 63).toInt = 33 ∨ (xs s &&& 63).toInt = 34 by omega) with e9 | e9 | e9 | e9 | e9 | e9 | e9 | e9 | e9 | e9 | e9 | e9 | e9 | e9 | e9 | e9 | e9 | e9 | e9 | e9 | e9 | e9 | e9 | e9 | e9 | e9 | e9 | e9 | e9 | e9 | e9 | e9 | e9 | e9 | e9
    · exact ⟨156, 188, by rw [e9]; rfl, rfl, lw_days h5 hN hR nx⟩
    · exact ⟨179, 211, by rw [e9]; rfl, rfl, lw_town h5 hN hR nx⟩
    · exact ⟨212, 244, by rw [e9]; rfl, rfl, lw_way h5 hN hR nx⟩
    · exact ⟨255, 287, by rw [e9]; rfl, rfl, lw_limit h5 hN hR nx⟩
    · exact ⟨288, 320, by rw [e9]; rfl, rfl, lw_keeper h5 hN hR nx⟩
    · exact ⟨341, 373, by rw [e9]; rfl, rfl, lw_house h5 hN hR nx⟩
    · exact ⟨374, 406, by rw [e9]; rfl, rfl, lw_stay h5 hN hR nx⟩
    · exact ⟨417, 449, by rw [e9]; rfl, rfl, lw_stayOf h5 hN hR nx⟩
    · exact ⟨450, 482, by rw [e9]; rfl, rfl, lw_why h5 hN hR nx⟩
    · exact ⟨483, 515, by rw [e9]; rfl, rfl, lw_take h5 hN hR nx⟩
    · exact ⟨516, 548, by rw [e9]; rfl, rfl, lw_cancel h5 hN hR nx⟩
    · exact ⟨539, 571, by rw [e9]; rfl, rfl, lw_where h5 hN hR nx⟩
    · exact ⟨572, 604, by rw [e9]; rfl, rfl, lw_feed h5 hN hR nx⟩
    · exact ⟨635, 667, by rw [e9]; rfl, rfl, lw_term h5 hN hR nx⟩
    · exact ⟨668, 700, by rw [e9]; rfl, rfl, lw_worth h5 hN hR nx⟩
    · exact ⟨701, 733, by rw [e9]; rfl, rfl, lw_review h5 hN hR nx⟩
    · exact ⟨760, 792, by rw [e9]; rfl, rfl, lw_hand h5 hN hR nx⟩
    · exact ⟨793, 825, by rw [e9]; rfl, rfl, lw_trust h5 hN hR nx⟩
    · exact ⟨826, 858, by rw [e9]; rfl, rfl, lw_bound h5 hN hR nx⟩
    · exact ⟨859, 891, by rw [e9]; rfl, rfl, lw_stars h5 hN hR nx⟩
    · exact ⟨892, 924, by rw [e9]; rfl, rfl, lw_put h5 hN hR nx⟩
    · exact ⟨915, 947, by rw [e9]; rfl, rfl, lw_unput h5 hN hR nx⟩
    · exact ⟨928, 960, by rw [e9]; rfl, rfl, lw_chain h5 hN hR nx⟩
    · exact ⟨961, 993, by rw [e9]; rfl, rfl, lw_wish h5 hN hR nx⟩
    · exact ⟨1004, 1036, by rw [e9]; rfl, rfl, lw_pair h5 hN hR nx⟩
    · exact ⟨1027, 1059, by rw [e9]; rfl, rfl, lw_tell h5 hN hR nx⟩
    · exact ⟨1050, 1082, by rw [e9]; rfl, rfl, lw_judge h5 hN hR nx⟩
    · exact ⟨1063, 1095, by rw [e9]; rfl, rfl, lw_whoElse h5 hN hR nx⟩
    · exact ⟨1086, 1118, by rw [e9]; rfl, rfl, lw_place h5 hN hR nx⟩
    · exact ⟨1109, 1141, by rw [e9]; rfl, rfl, lw_group h5 hN hR nx⟩
    · exact ⟨1132, 1164, by rw [e9]; rfl, rfl, lw_list h5 hN hR nx⟩
    · exact ⟨1191, 1223, by rw [e9]; rfl, rfl, lw_look h5 hN hR nx⟩
    · exact ⟨1234, 1266, by rw [e9]; rfl, rfl, lw_gone h5 hN hR nx⟩
    · exact ⟨1257, 1289, by rw [e9]; rfl, rfl, lw_claim h5 hN hR nx⟩
    · exact ⟨1280, 1312, by rw [e9]; rfl, rfl, lw_count h5 hN hR nx⟩
