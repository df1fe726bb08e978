/-! the branches of the law -/
theorem lw_hg {c x y b1 b2 : Nat} (h1 : decide (c ≤ 8) = true) (h2 : x = 0) (h3 : y = 0) : (decide (c ≤ 8) && decide (x ≤ b1) && decide (y ≤ b2)) = true := by
  subst h2; subst h3
  rw [h1, decide_eq_true (Nat.zero_le b1), decide_eq_true (Nat.zero_le b2)]; rfl
set_option maxRecDepth 20000 in
theorem lw_days {N s : Nat} {xs : Nat → Int32} {b : Nat × Nat} {R : am_R} {I : am_V} {L : Nat → Nat → Int64} (h5 : s + 5 ≤ N) (hN : N ≤ 2560) (hR : RelE I) (ih : ∀ (I : am_V) (L : Nat → Nat → Int64), RelE I → am_Run (some (N, xs)) (am_meth 60) 258 R 1335 [some (.float 0), some (.ref 0), some (.ref 113), some (.int (nI s))] [] (am_mk I L, b)) : am_Run (some (N, xs)) (am_meth 60) 258 R 188 [some (.float 0), some (.ref 0), some (.ref 113), some (.int (nI s))] [] (am_mk I L, b) := by
  refine ar_aload_n (j := 1) (q := 189) rfl rfl rfl rfl ?_
  refine ar_aload_nx (j := 0) (q := 190) rfl rfl rfl rfl ?_
  refine ar_iload_n (j := 3) (q := 191) rfl rfl rfl rfl ?_
  refine ar_iconst (v := 1) (q := 192) rfl rfl rfl ?_
  refine ar_ib (i := .iadd) (z := nI s + 1) (q := 193) rfl rfl rfl rfl rfl ?_
  refine ar_sld (v := xs (s + 1)) (q := 194) rfl rfl (am_inE (nI_add s 1) (by omega) (by omega)) (am_clE (n := N) (nI_add s 1) (by omega) (by omega)) rfl ?_
  refine ar_invv (as := [.int (xs (s + 1))]) (rest := []) (b2 := (0, 0)) (b3 := b) (q := 197) rfl rfl rfl rfl mk_0 rfl (lw_hg rfl rfl rfl) rfl rfl rfl ?_
  refine am_meth_mono 60 _ _ _ _ _ (fun v9 m9 h9 => ?_) (op_days I L hR)
  obtain ⟨z, I1, L1, rfl, rfl, hm⟩ := h9
  show am_Run (some (N, xs)) (am_meth 60) 258 R 197 [some (.float 0), some (.ref 0), some (.ref 113), some (.int (nI s))] [.int z] (am_mk I1 L1, b)
  refine ar_aload_n (j := 2) (q := 198) rfl rfl rfl rfl ?_
  refine ar_aload_nx (j := 0) (q := 199) rfl rfl rfl rfl ?_
  refine ar_iload_n (j := 3) (q := 200) rfl rfl rfl rfl ?_
  refine ar_iconst (v := 1) (q := 201) rfl rfl rfl ?_
  refine ar_ib (i := .iadd) (z := nI s + 1) (q := 202) rfl rfl rfl rfl rfl ?_
  refine ar_sld (v := xs (s + 1)) (q := 203) rfl rfl (am_inE (nI_add s 1) (by omega) (by omega)) (am_clE (n := N) (nI_add s 1) (by omega) (by omega)) rfl ?_
  refine ar_invv (as := [.int (xs (s + 1))]) (rest := [.int z]) (b2 := (0, 0)) (b3 := b) (q := 206) rfl rfl rfl rfl mk_113 rfl (lw_hg rfl rfl rfl) rfl rfl rfl ?_
  refine am_meth_mono 60 _ _ _ _ _ (fun v9 m9 h9 => ?_) hm
  obtain ⟨z2, I2, L2, rfl, rfl, rfl, hR2⟩ := h9
  show am_Run (some (N, xs)) (am_meth 60) 258 R 206 [some (.float 0), some (.ref 0), some (.ref 113), some (.int (nI s))] [.int z2, .int z2] (am_mk I2 L2, b)
  refine ar_br (t := 1335) (q := 209) am_c_eq rfl rfl rfl (fun _ => ?_) (fun c => absurd rfl c)
  exact ih _ _ hR2
set_option maxRecDepth 20000 in
theorem lw_town {N s : Nat} {xs : Nat → Int32} {b : Nat × Nat} {R : am_R} {I : am_V} {L : Nat → Nat → Int64} (h5 : s + 5 ≤ N) (hN : N ≤ 2560) (hR : RelE I) (ih : ∀ (I : am_V) (L : Nat → Nat → Int64), RelE I → am_Run (some (N, xs)) (am_meth 60) 258 R 1335 [some (.float 0), some (.ref 0), some (.ref 113), some (.int (nI s))] [] (am_mk I L, b)) : am_Run (some (N, xs)) (am_meth 60) 258 R 211 [some (.float 0), some (.ref 0), some (.ref 113), some (.int (nI s))] [] (am_mk I L, b) := by
  refine ar_aload_n (j := 1) (q := 212) rfl rfl rfl rfl ?_
  refine ar_aload_nx (j := 0) (q := 213) rfl rfl rfl rfl ?_
  refine ar_iload_n (j := 3) (q := 214) rfl rfl rfl rfl ?_
  refine ar_iconst (v := 1) (q := 215) rfl rfl rfl ?_
  refine ar_ib (i := .iadd) (z := nI s + 1) (q := 216) rfl rfl rfl rfl rfl ?_
  refine ar_sld (v := xs (s + 1)) (q := 217) rfl rfl (am_inE (nI_add s 1) (by omega) (by omega)) (am_clE (n := N) (nI_add s 1) (by omega) (by omega)) rfl ?_
  refine ar_aload_nx (j := 0) (q := 218) rfl rfl rfl rfl ?_
  refine ar_iload_n (j := 3) (q := 219) rfl rfl rfl rfl ?_
  refine ar_iconst (v := 2) (q := 220) rfl rfl rfl ?_
  refine ar_ib (i := .iadd) (z := nI s + 2) (q := 221) rfl rfl rfl rfl rfl ?_
  refine ar_sld (v := xs (s + 2)) (q := 222) rfl rfl (am_inE (nI_add s 2) (by omega) (by omega)) (am_clE (n := N) (nI_add s 2) (by omega) (by omega)) rfl ?_
  refine ar_invv (as := [.int (xs (s + 1)), .int (xs (s + 2))]) (rest := []) (b2 := (0, 0)) (b3 := b) (q := 225) rfl rfl rfl rfl mk_0 rfl (lw_hg rfl rfl rfl) rfl rfl rfl ?_
  refine am_meth_mono 60 _ _ _ _ _ (fun v9 m9 h9 => ?_) (op_town I L hR)
  obtain ⟨z, I1, L1, rfl, rfl, hm⟩ := h9
  show am_Run (some (N, xs)) (am_meth 60) 258 R 225 [some (.float 0), some (.ref 0), some (.ref 113), some (.int (nI s))] [.int z] (am_mk I1 L1, b)
  refine ar_aload_n (j := 2) (q := 226) rfl rfl rfl rfl ?_
  refine ar_aload_nx (j := 0) (q := 227) rfl rfl rfl rfl ?_
  refine ar_iload_n (j := 3) (q := 228) rfl rfl rfl rfl ?_
  refine ar_iconst (v := 1) (q := 229) rfl rfl rfl ?_
  refine ar_ib (i := .iadd) (z := nI s + 1) (q := 230) rfl rfl rfl rfl rfl ?_
  refine ar_sld (v := xs (s + 1)) (q := 231) rfl rfl (am_inE (nI_add s 1) (by omega) (by omega)) (am_clE (n := N) (nI_add s 1) (by omega) (by omega)) rfl ?_
  refine ar_aload_nx (j := 0) (q := 232) rfl rfl rfl rfl ?_
  refine ar_iload_n (j := 3) (q := 233) rfl rfl rfl rfl ?_
  refine ar_iconst (v := 2) (q := 234) rfl rfl rfl ?_
  refine ar_ib (i := .iadd) (z := nI s + 2) (q := 235) rfl rfl rfl rfl rfl ?_
  refine ar_sld (v := xs (s + 2)) (q := 236) rfl rfl (am_inE (nI_add s 2) (by omega) (by omega)) (am_clE (n := N) (nI_add s 2) (by omega) (by omega)) rfl ?_
  refine ar_invv (as := [.int (xs (s + 1)), .int (xs (s + 2))]) (rest := [.int z]) (b2 := (0, 0)) (b3 := b) (q := 239) rfl rfl rfl rfl mk_113 rfl (lw_hg rfl rfl rfl) rfl rfl rfl ?_
  refine am_meth_mono 60 _ _ _ _ _ (fun v9 m9 h9 => ?_) hm
  obtain ⟨z2, I2, L2, rfl, rfl, rfl, hR2⟩ := h9
  show am_Run (some (N, xs)) (am_meth 60) 258 R 239 [some (.float 0), some (.ref 0), some (.ref 113), some (.int (nI s))] [.int z2, .int z2] (am_mk I2 L2, b)
  refine ar_br (t := 1335) (q := 242) am_c_eq rfl rfl rfl (fun _ => ?_) (fun c => absurd rfl c)
  exact ih _ _ hR2
set_option maxRecDepth 20000 in
theorem lw_way {N s : Nat} {xs : Nat → Int32} {b : Nat × Nat} {R : am_R} {I : am_V} {L : Nat → Nat → Int64} (h5 : s + 5 ≤ N) (hN : N ≤ 2560) (hR : RelE I) (ih : ∀ (I : am_V) (L : Nat → Nat → Int64), RelE I → am_Run (some (N, xs)) (am_meth 60) 258 R 1335 [some (.float 0), some (.ref 0), some (.ref 113), some (.int (nI s))] [] (am_mk I L, b)) : am_Run (some (N, xs)) (am_meth 60) 258 R 244 [some (.float 0), some (.ref 0), some (.ref 113), some (.int (nI s))] [] (am_mk I L, b) := by
  refine ar_aload_n (j := 1) (q := 245) rfl rfl rfl rfl ?_
  refine ar_aload_nx (j := 0) (q := 246) rfl rfl rfl rfl ?_
  refine ar_iload_n (j := 3) (q := 247) rfl rfl rfl rfl ?_
  refine ar_iconst (v := 1) (q := 248) rfl rfl rfl ?_
  refine ar_ib (i := .iadd) (z := nI s + 1) (q := 249) rfl rfl rfl rfl rfl ?_
  refine ar_sld (v := xs (s + 1)) (q := 250) rfl rfl (am_inE (nI_add s 1) (by omega) (by omega)) (am_clE (n := N) (nI_add s 1) (by omega) (by omega)) rfl ?_
  refine ar_aload_nx (j := 0) (q := 251) rfl rfl rfl rfl ?_
  refine ar_iload_n (j := 3) (q := 252) rfl rfl rfl rfl ?_
  refine ar_iconst (v := 2) (q := 253) rfl rfl rfl ?_
  refine ar_ib (i := .iadd) (z := nI s + 2) (q := 254) rfl rfl rfl rfl rfl ?_
  refine ar_sld (v := xs (s + 2)) (q := 255) rfl rfl (am_inE (nI_add s 2) (by omega) (by omega)) (am_clE (n := N) (nI_add s 2) (by omega) (by omega)) rfl ?_
  refine ar_aload_nx (j := 0) (q := 256) rfl rfl rfl rfl ?_
  refine ar_iload_n (j := 3) (q := 257) rfl rfl rfl rfl ?_
  refine ar_iconst (v := 3) (q := 258) rfl rfl rfl ?_
  refine ar_ib (i := .iadd) (z := nI s + 3) (q := 259) rfl rfl rfl rfl rfl ?_
  refine ar_sld (v := xs (s + 3)) (q := 260) rfl rfl (am_inE (nI_add s 3) (by omega) (by omega)) (am_clE (n := N) (nI_add s 3) (by omega) (by omega)) rfl ?_
  refine ar_invv (as := [.int (xs (s + 1)), .int (xs (s + 2)), .int (xs (s + 3))]) (rest := []) (b2 := (0, 0)) (b3 := b) (q := 263) rfl rfl rfl rfl mk_0 rfl (lw_hg rfl rfl rfl) rfl rfl rfl ?_
  refine am_meth_mono 60 _ _ _ _ _ (fun v9 m9 h9 => ?_) (op_way I L hR)
  obtain ⟨z, I1, L1, rfl, rfl, hm⟩ := h9
  show am_Run (some (N, xs)) (am_meth 60) 258 R 263 [some (.float 0), some (.ref 0), some (.ref 113), some (.int (nI s))] [.int z] (am_mk I1 L1, b)
  refine ar_aload_n (j := 2) (q := 264) rfl rfl rfl rfl ?_
  refine ar_aload_nx (j := 0) (q := 265) rfl rfl rfl rfl ?_
  refine ar_iload_n (j := 3) (q := 266) rfl rfl rfl rfl ?_
  refine ar_iconst (v := 1) (q := 267) rfl rfl rfl ?_
  refine ar_ib (i := .iadd) (z := nI s + 1) (q := 268) rfl rfl rfl rfl rfl ?_
  refine ar_sld (v := xs (s + 1)) (q := 269) rfl rfl (am_inE (nI_add s 1) (by omega) (by omega)) (am_clE (n := N) (nI_add s 1) (by omega) (by omega)) rfl ?_
  refine ar_aload_nx (j := 0) (q := 270) rfl rfl rfl rfl ?_
  refine ar_iload_n (j := 3) (q := 271) rfl rfl rfl rfl ?_
  refine ar_iconst (v := 2) (q := 272) rfl rfl rfl ?_
  refine ar_ib (i := .iadd) (z := nI s + 2) (q := 273) rfl rfl rfl rfl rfl ?_
  refine ar_sld (v := xs (s + 2)) (q := 274) rfl rfl (am_inE (nI_add s 2) (by omega) (by omega)) (am_clE (n := N) (nI_add s 2) (by omega) (by omega)) rfl ?_
  refine ar_aload_nx (j := 0) (q := 275) rfl rfl rfl rfl ?_
  refine ar_iload_n (j := 3) (q := 276) rfl rfl rfl rfl ?_
  refine ar_iconst (v := 3) (q := 277) rfl rfl rfl ?_
  refine ar_ib (i := .iadd) (z := nI s + 3) (q := 278) rfl rfl rfl rfl rfl ?_
  refine ar_sld (v := xs (s + 3)) (q := 279) rfl rfl (am_inE (nI_add s 3) (by omega) (by omega)) (am_clE (n := N) (nI_add s 3) (by omega) (by omega)) rfl ?_
  refine ar_invv (as := [.int (xs (s + 1)), .int (xs (s + 2)), .int (xs (s + 3))]) (rest := [.int z]) (b2 := (0, 0)) (b3 := b) (q := 282) rfl rfl rfl rfl mk_113 rfl (lw_hg rfl rfl rfl) rfl rfl rfl ?_
  refine am_meth_mono 60 _ _ _ _ _ (fun v9 m9 h9 => ?_) hm
  obtain ⟨z2, I2, L2, rfl, rfl, rfl, hR2⟩ := h9
  show am_Run (some (N, xs)) (am_meth 60) 258 R 282 [some (.float 0), some (.ref 0), some (.ref 113), some (.int (nI s))] [.int z2, .int z2] (am_mk I2 L2, b)
  refine ar_br (t := 1335) (q := 285) am_c_eq rfl rfl rfl (fun _ => ?_) (fun c => absurd rfl c)
  exact ih _ _ hR2
set_option maxRecDepth 20000 in
theorem lw_limit {N s : Nat} {xs : Nat → Int32} {b : Nat × Nat} {R : am_R} {I : am_V} {L : Nat → Nat → Int64} (h5 : s + 5 ≤ N) (hN : N ≤ 2560) (hR : RelE I) (ih : ∀ (I : am_V) (L : Nat → Nat → Int64), RelE I → am_Run (some (N, xs)) (am_meth 60) 258 R 1335 [some (.float 0), some (.ref 0), some (.ref 113), some (.int (nI s))] [] (am_mk I L, b)) : am_Run (some (N, xs)) (am_meth 60) 258 R 287 [some (.float 0), some (.ref 0), some (.ref 113), some (.int (nI s))] [] (am_mk I L, b) := by
  refine ar_aload_n (j := 1) (q := 288) rfl rfl rfl rfl ?_
  refine ar_aload_nx (j := 0) (q := 289) rfl rfl rfl rfl ?_
  refine ar_iload_n (j := 3) (q := 290) rfl rfl rfl rfl ?_
  refine ar_iconst (v := 1) (q := 291) rfl rfl rfl ?_
  refine ar_ib (i := .iadd) (z := nI s + 1) (q := 292) rfl rfl rfl rfl rfl ?_
  refine ar_sld (v := xs (s + 1)) (q := 293) rfl rfl (am_inE (nI_add s 1) (by omega) (by omega)) (am_clE (n := N) (nI_add s 1) (by omega) (by omega)) rfl ?_
  refine ar_aload_nx (j := 0) (q := 294) rfl rfl rfl rfl ?_
  refine ar_iload_n (j := 3) (q := 295) rfl rfl rfl rfl ?_
  refine ar_iconst (v := 2) (q := 296) rfl rfl rfl ?_
  refine ar_ib (i := .iadd) (z := nI s + 2) (q := 297) rfl rfl rfl rfl rfl ?_
  refine ar_sld (v := xs (s + 2)) (q := 298) rfl rfl (am_inE (nI_add s 2) (by omega) (by omega)) (am_clE (n := N) (nI_add s 2) (by omega) (by omega)) rfl ?_
  refine ar_invv (as := [.int (xs (s + 1)), .int (xs (s + 2))]) (rest := []) (b2 := (0, 0)) (b3 := b) (q := 301) rfl rfl rfl rfl mk_0 rfl (lw_hg rfl rfl rfl) rfl rfl rfl ?_
  refine am_meth_mono 60 _ _ _ _ _ (fun v9 m9 h9 => ?_) (op_limit I L hR)
  obtain ⟨z, I1, L1, rfl, rfl, hm⟩ := h9
  show am_Run (some (N, xs)) (am_meth 60) 258 R 301 [some (.float 0), some (.ref 0), some (.ref 113), some (.int (nI s))] [.int z] (am_mk I1 L1, b)
  refine ar_aload_n (j := 2) (q := 302) rfl rfl rfl rfl ?_
  refine ar_aload_nx (j := 0) (q := 303) rfl rfl rfl rfl ?_
  refine ar_iload_n (j := 3) (q := 304) rfl rfl rfl rfl ?_
  refine ar_iconst (v := 1) (q := 305) rfl rfl rfl ?_
  refine ar_ib (i := .iadd) (z := nI s + 1) (q := 306) rfl rfl rfl rfl rfl ?_
  refine ar_sld (v := xs (s + 1)) (q := 307) rfl rfl (am_inE (nI_add s 1) (by omega) (by omega)) (am_clE (n := N) (nI_add s 1) (by omega) (by omega)) rfl ?_
  refine ar_aload_nx (j := 0) (q := 308) rfl rfl rfl rfl ?_
  refine ar_iload_n (j := 3) (q := 309) rfl rfl rfl rfl ?_
  refine ar_iconst (v := 2) (q := 310) rfl rfl rfl ?_
  refine ar_ib (i := .iadd) (z := nI s + 2) (q := 311) rfl rfl rfl rfl rfl ?_
  refine ar_sld (v := xs (s + 2)) (q := 312) rfl rfl (am_inE (nI_add s 2) (by omega) (by omega)) (am_clE (n := N) (nI_add s 2) (by omega) (by omega)) rfl ?_
  refine ar_invv (as := [.int (xs (s + 1)), .int (xs (s + 2))]) (rest := [.int z]) (b2 := (0, 0)) (b3 := b) (q := 315) rfl rfl rfl rfl mk_113 rfl (lw_hg rfl rfl rfl) rfl rfl rfl ?_
  refine am_meth_mono 60 _ _ _ _ _ (fun v9 m9 h9 => ?_) hm
  obtain ⟨z2, I2, L2, rfl, rfl, rfl, hR2⟩ := h9
  show am_Run (some (N, xs)) (am_meth 60) 258 R 315 [some (.float 0), some (.ref 0), some (.ref 113), some (.int (nI s))] [.int z2, .int z2] (am_mk I2 L2, b)
  refine ar_br (t := 1335) (q := 318) am_c_eq rfl rfl rfl (fun _ => ?_) (fun c => absurd rfl c)
  exact ih _ _ hR2
set_option maxRecDepth 20000 in
theorem lw_keeper {N s : Nat} {xs : Nat → Int32} {b : Nat × Nat} {R : am_R} {I : am_V} {L : Nat → Nat → Int64} (h5 : s + 5 ≤ N) (hN : N ≤ 2560) (hR : RelE I) (ih : ∀ (I : am_V) (L : Nat → Nat → Int64), RelE I → am_Run (some (N, xs)) (am_meth 60) 258 R 1335 [some (.float 0), some (.ref 0), some (.ref 113), some (.int (nI s))] [] (am_mk I L, b)) : am_Run (some (N, xs)) (am_meth 60) 258 R 320 [some (.float 0), some (.ref 0), some (.ref 113), some (.int (nI s))] [] (am_mk I L, b) := by
  refine ar_aload_n (j := 1) (q := 321) rfl rfl rfl rfl ?_
  refine ar_aload_nx (j := 0) (q := 322) rfl rfl rfl rfl ?_
  refine ar_iload_n (j := 3) (q := 323) rfl rfl rfl rfl ?_
  refine ar_iconst (v := 1) (q := 324) rfl rfl rfl ?_
  refine ar_ib (i := .iadd) (z := nI s + 1) (q := 325) rfl rfl rfl rfl rfl ?_
  refine ar_sld (v := xs (s + 1)) (q := 326) rfl rfl (am_inE (nI_add s 1) (by omega) (by omega)) (am_clE (n := N) (nI_add s 1) (by omega) (by omega)) rfl ?_
  refine ar_aload_nx (j := 0) (q := 327) rfl rfl rfl rfl ?_
  refine ar_iload_n (j := 3) (q := 328) rfl rfl rfl rfl ?_
  refine ar_iconst (v := 2) (q := 329) rfl rfl rfl ?_
  refine ar_ib (i := .iadd) (z := nI s + 2) (q := 330) rfl rfl rfl rfl rfl ?_
  refine ar_sld (v := xs (s + 2)) (q := 331) rfl rfl (am_inE (nI_add s 2) (by omega) (by omega)) (am_clE (n := N) (nI_add s 2) (by omega) (by omega)) rfl ?_
  refine ar_aload_nx (j := 0) (q := 332) rfl rfl rfl rfl ?_
  refine ar_iload_n (j := 3) (q := 333) rfl rfl rfl rfl ?_
  refine ar_iconst (v := 3) (q := 334) rfl rfl rfl ?_
  refine ar_ib (i := .iadd) (z := nI s + 3) (q := 335) rfl rfl rfl rfl rfl ?_
  refine ar_sld (v := xs (s + 3)) (q := 336) rfl rfl (am_inE (nI_add s 3) (by omega) (by omega)) (am_clE (n := N) (nI_add s 3) (by omega) (by omega)) rfl ?_
  refine ar_aload_nx (j := 0) (q := 337) rfl rfl rfl rfl ?_
  refine ar_iload_n (j := 3) (q := 338) rfl rfl rfl rfl ?_
  refine ar_iconst (v := 4) (q := 339) rfl rfl rfl ?_
  refine ar_ib (i := .iadd) (z := nI s + 4) (q := 340) rfl rfl rfl rfl rfl ?_
  refine ar_sld (v := xs (s + 4)) (q := 341) rfl rfl (am_inE (nI_add s 4) (by omega) (by omega)) (am_clE (n := N) (nI_add s 4) (by omega) (by omega)) rfl ?_
  refine ar_invv (as := [.int (xs (s + 1)), .int (xs (s + 2)), .int (xs (s + 3)), .int (xs (s + 4))]) (rest := []) (b2 := (0, 0)) (b3 := b) (q := 344) rfl rfl rfl rfl mk_0 rfl (lw_hg rfl rfl rfl) rfl rfl rfl ?_
  refine am_meth_mono 60 _ _ _ _ _ (fun v9 m9 h9 => ?_) (op_keeper I L hR)
  obtain ⟨z, I1, L1, rfl, rfl, hm⟩ := h9
  show am_Run (some (N, xs)) (am_meth 60) 258 R 344 [some (.float 0), some (.ref 0), some (.ref 113), some (.int (nI s))] [.int z] (am_mk I1 L1, b)
  refine ar_aload_n (j := 2) (q := 345) rfl rfl rfl rfl ?_
  refine ar_aload_nx (j := 0) (q := 346) rfl rfl rfl rfl ?_
  refine ar_iload_n (j := 3) (q := 347) rfl rfl rfl rfl ?_
  refine ar_iconst (v := 1) (q := 348) rfl rfl rfl ?_
  refine ar_ib (i := .iadd) (z := nI s + 1) (q := 349) rfl rfl rfl rfl rfl ?_
  refine ar_sld (v := xs (s + 1)) (q := 350) rfl rfl (am_inE (nI_add s 1) (by omega) (by omega)) (am_clE (n := N) (nI_add s 1) (by omega) (by omega)) rfl ?_
  refine ar_aload_nx (j := 0) (q := 351) rfl rfl rfl rfl ?_
  refine ar_iload_n (j := 3) (q := 352) rfl rfl rfl rfl ?_
  refine ar_iconst (v := 2) (q := 353) rfl rfl rfl ?_
  refine ar_ib (i := .iadd) (z := nI s + 2) (q := 354) rfl rfl rfl rfl rfl ?_
  refine ar_sld (v := xs (s + 2)) (q := 355) rfl rfl (am_inE (nI_add s 2) (by omega) (by omega)) (am_clE (n := N) (nI_add s 2) (by omega) (by omega)) rfl ?_
  refine ar_aload_nx (j := 0) (q := 356) rfl rfl rfl rfl ?_
  refine ar_iload_n (j := 3) (q := 357) rfl rfl rfl rfl ?_
  refine ar_iconst (v := 3) (q := 358) rfl rfl rfl ?_
  refine ar_ib (i := .iadd) (z := nI s + 3) (q := 359) rfl rfl rfl rfl rfl ?_
  refine ar_sld (v := xs (s + 3)) (q := 360) rfl rfl (am_inE (nI_add s 3) (by omega) (by omega)) (am_clE (n := N) (nI_add s 3) (by omega) (by omega)) rfl ?_
  refine ar_aload_nx (j := 0) (q := 361) rfl rfl rfl rfl ?_
  refine ar_iload_n (j := 3) (q := 362) rfl rfl rfl rfl ?_
  refine ar_iconst (v := 4) (q := 363) rfl rfl rfl ?_
  refine ar_ib (i := .iadd) (z := nI s + 4) (q := 364) rfl rfl rfl rfl rfl ?_
  refine ar_sld (v := xs (s + 4)) (q := 365) rfl rfl (am_inE (nI_add s 4) (by omega) (by omega)) (am_clE (n := N) (nI_add s 4) (by omega) (by omega)) rfl ?_
  refine ar_invv (as := [.int (xs (s + 1)), .int (xs (s + 2)), .int (xs (s + 3)), .int (xs (s + 4))]) (rest := [.int z]) (b2 := (0, 0)) (b3 := b) (q := 368) rfl rfl rfl rfl mk_113 rfl (lw_hg rfl rfl rfl) rfl rfl rfl ?_
  refine am_meth_mono 60 _ _ _ _ _ (fun v9 m9 h9 => ?_) hm
  obtain ⟨z2, I2, L2, rfl, rfl, rfl, hR2⟩ := h9
  show am_Run (some (N, xs)) (am_meth 60) 258 R 368 [some (.float 0), some (.ref 0), some (.ref 113), some (.int (nI s))] [.int z2, .int z2] (am_mk I2 L2, b)
  refine ar_br (t := 1335) (q := 371) am_c_eq rfl rfl rfl (fun _ => ?_) (fun c => absurd rfl c)
  exact ih _ _ hR2
set_option maxRecDepth 20000 in
theorem lw_house {N s : Nat} {xs : Nat → Int32} {b : Nat × Nat} {R : am_R} {I : am_V} {L : Nat → Nat → Int64} (h5 : s + 5 ≤ N) (hN : N ≤ 2560) (hR : RelE I) (ih : ∀ (I : am_V) (L : Nat → Nat → Int64), RelE I → am_Run (some (N, xs)) (am_meth 60) 258 R 1335 [some (.float 0), some (.ref 0), some (.ref 113), some (.int (nI s))] [] (am_mk I L, b)) : am_Run (some (N, xs)) (am_meth 60) 258 R 373 [some (.float 0), some (.ref 0), some (.ref 113), some (.int (nI s))] [] (am_mk I L, b) := by
  refine ar_aload_n (j := 1) (q := 374) rfl rfl rfl rfl ?_
  refine ar_aload_nx (j := 0) (q := 375) rfl rfl rfl rfl ?_
  refine ar_iload_n (j := 3) (q := 376) rfl rfl rfl rfl ?_
  refine ar_iconst (v := 1) (q := 377) rfl rfl rfl ?_
  refine ar_ib (i := .iadd) (z := nI s + 1) (q := 378) rfl rfl rfl rfl rfl ?_
  refine ar_sld (v := xs (s + 1)) (q := 379) rfl rfl (am_inE (nI_add s 1) (by omega) (by omega)) (am_clE (n := N) (nI_add s 1) (by omega) (by omega)) rfl ?_
  refine ar_aload_nx (j := 0) (q := 380) rfl rfl rfl rfl ?_
  refine ar_iload_n (j := 3) (q := 381) rfl rfl rfl rfl ?_
  refine ar_iconst (v := 2) (q := 382) rfl rfl rfl ?_
  refine ar_ib (i := .iadd) (z := nI s + 2) (q := 383) rfl rfl rfl rfl rfl ?_
  refine ar_sld (v := xs (s + 2)) (q := 384) rfl rfl (am_inE (nI_add s 2) (by omega) (by omega)) (am_clE (n := N) (nI_add s 2) (by omega) (by omega)) rfl ?_
  refine ar_invv (as := [.int (xs (s + 1)), .int (xs (s + 2))]) (rest := []) (b2 := (0, 0)) (b3 := b) (q := 387) rfl rfl rfl rfl mk_0 rfl (lw_hg rfl rfl rfl) rfl rfl rfl ?_
  refine am_meth_mono 60 _ _ _ _ _ (fun v9 m9 h9 => ?_) (op_house I L hR)
  obtain ⟨z, I1, L1, rfl, rfl, hm⟩ := h9
  show am_Run (some (N, xs)) (am_meth 60) 258 R 387 [some (.float 0), some (.ref 0), some (.ref 113), some (.int (nI s))] [.int z] (am_mk I1 L1, b)
  refine ar_aload_n (j := 2) (q := 388) rfl rfl rfl rfl ?_
  refine ar_aload_nx (j := 0) (q := 389) rfl rfl rfl rfl ?_
  refine ar_iload_n (j := 3) (q := 390) rfl rfl rfl rfl ?_
  refine ar_iconst (v := 1) (q := 391) rfl rfl rfl ?_
  refine ar_ib (i := .iadd) (z := nI s + 1) (q := 392) rfl rfl rfl rfl rfl ?_
  refine ar_sld (v := xs (s + 1)) (q := 393) rfl rfl (am_inE (nI_add s 1) (by omega) (by omega)) (am_clE (n := N) (nI_add s 1) (by omega) (by omega)) rfl ?_
  refine ar_aload_nx (j := 0) (q := 394) rfl rfl rfl rfl ?_
  refine ar_iload_n (j := 3) (q := 395) rfl rfl rfl rfl ?_
  refine ar_iconst (v := 2) (q := 396) rfl rfl rfl ?_
  refine ar_ib (i := .iadd) (z := nI s + 2) (q := 397) rfl rfl rfl rfl rfl ?_
  refine ar_sld (v := xs (s + 2)) (q := 398) rfl rfl (am_inE (nI_add s 2) (by omega) (by omega)) (am_clE (n := N) (nI_add s 2) (by omega) (by omega)) rfl ?_
  refine ar_invv (as := [.int (xs (s + 1)), .int (xs (s + 2))]) (rest := [.int z]) (b2 := (0, 0)) (b3 := b) (q := 401) rfl rfl rfl rfl mk_113 rfl (lw_hg rfl rfl rfl) rfl rfl rfl ?_
  refine am_meth_mono 60 _ _ _ _ _ (fun v9 m9 h9 => ?_) hm
  obtain ⟨z2, I2, L2, rfl, rfl, rfl, hR2⟩ := h9
  show am_Run (some (N, xs)) (am_meth 60) 258 R 401 [some (.float 0), some (.ref 0), some (.ref 113), some (.int (nI s))] [.int z2, .int z2] (am_mk I2 L2, b)
  refine ar_br (t := 1335) (q := 404) am_c_eq rfl rfl rfl (fun _ => ?_) (fun c => absurd rfl c)
  exact ih _ _ hR2
set_option maxRecDepth 20000 in
theorem lw_stay {N s : Nat} {xs : Nat → Int32} {b : Nat × Nat} {R : am_R} {I : am_V} {L : Nat → Nat → Int64} (h5 : s + 5 ≤ N) (hN : N ≤ 2560) (hR : RelE I) (ih : ∀ (I : am_V) (L : Nat → Nat → Int64), RelE I → am_Run (some (N, xs)) (am_meth 60) 258 R 1335 [some (.float 0), some (.ref 0), some (.ref 113), some (.int (nI s))] [] (am_mk I L, b)) : am_Run (some (N, xs)) (am_meth 60) 258 R 406 [some (.float 0), some (.ref 0), some (.ref 113), some (.int (nI s))] [] (am_mk I L, b) := by
  refine ar_aload_n (j := 1) (q := 407) rfl rfl rfl rfl ?_
  refine ar_aload_nx (j := 0) (q := 408) rfl rfl rfl rfl ?_
  refine ar_iload_n (j := 3) (q := 409) rfl rfl rfl rfl ?_
  refine ar_iconst (v := 1) (q := 410) rfl rfl rfl ?_
  refine ar_ib (i := .iadd) (z := nI s + 1) (q := 411) rfl rfl rfl rfl rfl ?_
  refine ar_sld (v := xs (s + 1)) (q := 412) rfl rfl (am_inE (nI_add s 1) (by omega) (by omega)) (am_clE (n := N) (nI_add s 1) (by omega) (by omega)) rfl ?_
  refine ar_aload_nx (j := 0) (q := 413) rfl rfl rfl rfl ?_
  refine ar_iload_n (j := 3) (q := 414) rfl rfl rfl rfl ?_
  refine ar_iconst (v := 2) (q := 415) rfl rfl rfl ?_
  refine ar_ib (i := .iadd) (z := nI s + 2) (q := 416) rfl rfl rfl rfl rfl ?_
  refine ar_sld (v := xs (s + 2)) (q := 417) rfl rfl (am_inE (nI_add s 2) (by omega) (by omega)) (am_clE (n := N) (nI_add s 2) (by omega) (by omega)) rfl ?_
  refine ar_aload_nx (j := 0) (q := 418) rfl rfl rfl rfl ?_
  refine ar_iload_n (j := 3) (q := 419) rfl rfl rfl rfl ?_
  refine ar_iconst (v := 3) (q := 420) rfl rfl rfl ?_
  refine ar_ib (i := .iadd) (z := nI s + 3) (q := 421) rfl rfl rfl rfl rfl ?_
  refine ar_sld (v := xs (s + 3)) (q := 422) rfl rfl (am_inE (nI_add s 3) (by omega) (by omega)) (am_clE (n := N) (nI_add s 3) (by omega) (by omega)) rfl ?_
  refine ar_invv (as := [.int (xs (s + 1)), .int (xs (s + 2)), .int (xs (s + 3))]) (rest := []) (b2 := (0, 0)) (b3 := b) (q := 425) rfl rfl rfl rfl mk_0 rfl (lw_hg rfl rfl rfl) rfl rfl rfl ?_
  refine am_meth_mono 60 _ _ _ _ _ (fun v9 m9 h9 => ?_) (op_stay I L hR)
  obtain ⟨z, I1, L1, rfl, rfl, hm⟩ := h9
  show am_Run (some (N, xs)) (am_meth 60) 258 R 425 [some (.float 0), some (.ref 0), some (.ref 113), some (.int (nI s))] [.int z] (am_mk I1 L1, b)
  refine ar_aload_n (j := 2) (q := 426) rfl rfl rfl rfl ?_
  refine ar_aload_nx (j := 0) (q := 427) rfl rfl rfl rfl ?_
  refine ar_iload_n (j := 3) (q := 428) rfl rfl rfl rfl ?_
  refine ar_iconst (v := 1) (q := 429) rfl rfl rfl ?_
  refine ar_ib (i := .iadd) (z := nI s + 1) (q := 430) rfl rfl rfl rfl rfl ?_
  refine ar_sld (v := xs (s + 1)) (q := 431) rfl rfl (am_inE (nI_add s 1) (by omega) (by omega)) (am_clE (n := N) (nI_add s 1) (by omega) (by omega)) rfl ?_
  refine ar_aload_nx (j := 0) (q := 432) rfl rfl rfl rfl ?_
  refine ar_iload_n (j := 3) (q := 433) rfl rfl rfl rfl ?_
  refine ar_iconst (v := 2) (q := 434) rfl rfl rfl ?_
  refine ar_ib (i := .iadd) (z := nI s + 2) (q := 435) rfl rfl rfl rfl rfl ?_
  refine ar_sld (v := xs (s + 2)) (q := 436) rfl rfl (am_inE (nI_add s 2) (by omega) (by omega)) (am_clE (n := N) (nI_add s 2) (by omega) (by omega)) rfl ?_
  refine ar_aload_nx (j := 0) (q := 437) rfl rfl rfl rfl ?_
  refine ar_iload_n (j := 3) (q := 438) rfl rfl rfl rfl ?_
  refine ar_iconst (v := 3) (q := 439) rfl rfl rfl ?_
  refine ar_ib (i := .iadd) (z := nI s + 3) (q := 440) rfl rfl rfl rfl rfl ?_
  refine ar_sld (v := xs (s + 3)) (q := 441) rfl rfl (am_inE (nI_add s 3) (by omega) (by omega)) (am_clE (n := N) (nI_add s 3) (by omega) (by omega)) rfl ?_
  refine ar_invv (as := [.int (xs (s + 1)), .int (xs (s + 2)), .int (xs (s + 3))]) (rest := [.int z]) (b2 := (0, 0)) (b3 := b) (q := 444) rfl rfl rfl rfl mk_113 rfl (lw_hg rfl rfl rfl) rfl rfl rfl ?_
  refine am_meth_mono 60 _ _ _ _ _ (fun v9 m9 h9 => ?_) hm
  obtain ⟨z2, I2, L2, rfl, rfl, rfl, hR2⟩ := h9
  show am_Run (some (N, xs)) (am_meth 60) 258 R 444 [some (.float 0), some (.ref 0), some (.ref 113), some (.int (nI s))] [.int z2, .int z2] (am_mk I2 L2, b)
  refine ar_br (t := 1335) (q := 447) am_c_eq rfl rfl rfl (fun _ => ?_) (fun c => absurd rfl c)
  exact ih _ _ hR2
set_option maxRecDepth 20000 in
theorem lw_stayOf {N s : Nat} {xs : Nat → Int32} {b : Nat × Nat} {R : am_R} {I : am_V} {L : Nat → Nat → Int64} (h5 : s + 5 ≤ N) (hN : N ≤ 2560) (hR : RelE I) (ih : ∀ (I : am_V) (L : Nat → Nat → Int64), RelE I → am_Run (some (N, xs)) (am_meth 60) 258 R 1335 [some (.float 0), some (.ref 0), some (.ref 113), some (.int (nI s))] [] (am_mk I L, b)) : am_Run (some (N, xs)) (am_meth 60) 258 R 449 [some (.float 0), some (.ref 0), some (.ref 113), some (.int (nI s))] [] (am_mk I L, b) := by
  refine ar_aload_n (j := 1) (q := 450) rfl rfl rfl rfl ?_
  refine ar_aload_nx (j := 0) (q := 451) rfl rfl rfl rfl ?_
  refine ar_iload_n (j := 3) (q := 452) rfl rfl rfl rfl ?_
  refine ar_iconst (v := 1) (q := 453) rfl rfl rfl ?_
  refine ar_ib (i := .iadd) (z := nI s + 1) (q := 454) rfl rfl rfl rfl rfl ?_
  refine ar_sld (v := xs (s + 1)) (q := 455) rfl rfl (am_inE (nI_add s 1) (by omega) (by omega)) (am_clE (n := N) (nI_add s 1) (by omega) (by omega)) rfl ?_
  refine ar_aload_nx (j := 0) (q := 456) rfl rfl rfl rfl ?_
  refine ar_iload_n (j := 3) (q := 457) rfl rfl rfl rfl ?_
  refine ar_iconst (v := 2) (q := 458) rfl rfl rfl ?_
  refine ar_ib (i := .iadd) (z := nI s + 2) (q := 459) rfl rfl rfl rfl rfl ?_
  refine ar_sld (v := xs (s + 2)) (q := 460) rfl rfl (am_inE (nI_add s 2) (by omega) (by omega)) (am_clE (n := N) (nI_add s 2) (by omega) (by omega)) rfl ?_
  refine ar_invv (as := [.int (xs (s + 1)), .int (xs (s + 2))]) (rest := []) (b2 := (0, 0)) (b3 := b) (q := 463) rfl rfl rfl rfl mk_0 rfl (lw_hg rfl rfl rfl) rfl rfl rfl ?_
  refine am_meth_mono 60 _ _ _ _ _ (fun v9 m9 h9 => ?_) (op_stayOf I L hR)
  obtain ⟨z, I1, L1, rfl, rfl, hm⟩ := h9
  show am_Run (some (N, xs)) (am_meth 60) 258 R 463 [some (.float 0), some (.ref 0), some (.ref 113), some (.int (nI s))] [.int z] (am_mk I1 L1, b)
  refine ar_aload_n (j := 2) (q := 464) rfl rfl rfl rfl ?_
  refine ar_aload_nx (j := 0) (q := 465) rfl rfl rfl rfl ?_
  refine ar_iload_n (j := 3) (q := 466) rfl rfl rfl rfl ?_
  refine ar_iconst (v := 1) (q := 467) rfl rfl rfl ?_
  refine ar_ib (i := .iadd) (z := nI s + 1) (q := 468) rfl rfl rfl rfl rfl ?_
  refine ar_sld (v := xs (s + 1)) (q := 469) rfl rfl (am_inE (nI_add s 1) (by omega) (by omega)) (am_clE (n := N) (nI_add s 1) (by omega) (by omega)) rfl ?_
  refine ar_aload_nx (j := 0) (q := 470) rfl rfl rfl rfl ?_
  refine ar_iload_n (j := 3) (q := 471) rfl rfl rfl rfl ?_
  refine ar_iconst (v := 2) (q := 472) rfl rfl rfl ?_
  refine ar_ib (i := .iadd) (z := nI s + 2) (q := 473) rfl rfl rfl rfl rfl ?_
  refine ar_sld (v := xs (s + 2)) (q := 474) rfl rfl (am_inE (nI_add s 2) (by omega) (by omega)) (am_clE (n := N) (nI_add s 2) (by omega) (by omega)) rfl ?_
  refine ar_invv (as := [.int (xs (s + 1)), .int (xs (s + 2))]) (rest := [.int z]) (b2 := (0, 0)) (b3 := b) (q := 477) rfl rfl rfl rfl mk_113 rfl (lw_hg rfl rfl rfl) rfl rfl rfl ?_
  refine am_meth_mono 60 _ _ _ _ _ (fun v9 m9 h9 => ?_) hm
  obtain ⟨z2, I2, L2, rfl, rfl, rfl, hR2⟩ := h9
  show am_Run (some (N, xs)) (am_meth 60) 258 R 477 [some (.float 0), some (.ref 0), some (.ref 113), some (.int (nI s))] [.int z2, .int z2] (am_mk I2 L2, b)
  refine ar_br (t := 1335) (q := 480) am_c_eq rfl rfl rfl (fun _ => ?_) (fun c => absurd rfl c)
  exact ih _ _ hR2
set_option maxRecDepth 20000 in
theorem lw_why {N s : Nat} {xs : Nat → Int32} {b : Nat × Nat} {R : am_R} {I : am_V} {L : Nat → Nat → Int64} (h5 : s + 5 ≤ N) (hN : N ≤ 2560) (hR : RelE I) (ih : ∀ (I : am_V) (L : Nat → Nat → Int64), RelE I → am_Run (some (N, xs)) (am_meth 60) 258 R 1335 [some (.float 0), some (.ref 0), some (.ref 113), some (.int (nI s))] [] (am_mk I L, b)) : am_Run (some (N, xs)) (am_meth 60) 258 R 482 [some (.float 0), some (.ref 0), some (.ref 113), some (.int (nI s))] [] (am_mk I L, b) := by
  refine ar_aload_n (j := 1) (q := 483) rfl rfl rfl rfl ?_
  refine ar_aload_nx (j := 0) (q := 484) rfl rfl rfl rfl ?_
  refine ar_iload_n (j := 3) (q := 485) rfl rfl rfl rfl ?_
  refine ar_iconst (v := 1) (q := 486) rfl rfl rfl ?_
  refine ar_ib (i := .iadd) (z := nI s + 1) (q := 487) rfl rfl rfl rfl rfl ?_
  refine ar_sld (v := xs (s + 1)) (q := 488) rfl rfl (am_inE (nI_add s 1) (by omega) (by omega)) (am_clE (n := N) (nI_add s 1) (by omega) (by omega)) rfl ?_
  refine ar_aload_nx (j := 0) (q := 489) rfl rfl rfl rfl ?_
  refine ar_iload_n (j := 3) (q := 490) rfl rfl rfl rfl ?_
  refine ar_iconst (v := 2) (q := 491) rfl rfl rfl ?_
  refine ar_ib (i := .iadd) (z := nI s + 2) (q := 492) rfl rfl rfl rfl rfl ?_
  refine ar_sld (v := xs (s + 2)) (q := 493) rfl rfl (am_inE (nI_add s 2) (by omega) (by omega)) (am_clE (n := N) (nI_add s 2) (by omega) (by omega)) rfl ?_
  refine ar_invv (as := [.int (xs (s + 1)), .int (xs (s + 2))]) (rest := []) (b2 := (0, 0)) (b3 := b) (q := 496) rfl rfl rfl rfl mk_0 rfl (lw_hg rfl rfl rfl) rfl rfl rfl ?_
  refine am_meth_mono 60 _ _ _ _ _ (fun v9 m9 h9 => ?_) (op_why I L hR)
  obtain ⟨z, I1, L1, rfl, rfl, hm⟩ := h9
  show am_Run (some (N, xs)) (am_meth 60) 258 R 496 [some (.float 0), some (.ref 0), some (.ref 113), some (.int (nI s))] [.int z] (am_mk I1 L1, b)
  refine ar_aload_n (j := 2) (q := 497) rfl rfl rfl rfl ?_
  refine ar_aload_nx (j := 0) (q := 498) rfl rfl rfl rfl ?_
  refine ar_iload_n (j := 3) (q := 499) rfl rfl rfl rfl ?_
  refine ar_iconst (v := 1) (q := 500) rfl rfl rfl ?_
  refine ar_ib (i := .iadd) (z := nI s + 1) (q := 501) rfl rfl rfl rfl rfl ?_
  refine ar_sld (v := xs (s + 1)) (q := 502) rfl rfl (am_inE (nI_add s 1) (by omega) (by omega)) (am_clE (n := N) (nI_add s 1) (by omega) (by omega)) rfl ?_
  refine ar_aload_nx (j := 0) (q := 503) rfl rfl rfl rfl ?_
  refine ar_iload_n (j := 3) (q := 504) rfl rfl rfl rfl ?_
  refine ar_iconst (v := 2) (q := 505) rfl rfl rfl ?_
  refine ar_ib (i := .iadd) (z := nI s + 2) (q := 506) rfl rfl rfl rfl rfl ?_
  refine ar_sld (v := xs (s + 2)) (q := 507) rfl rfl (am_inE (nI_add s 2) (by omega) (by omega)) (am_clE (n := N) (nI_add s 2) (by omega) (by omega)) rfl ?_
  refine ar_invv (as := [.int (xs (s + 1)), .int (xs (s + 2))]) (rest := [.int z]) (b2 := (0, 0)) (b3 := b) (q := 510) rfl rfl rfl rfl mk_113 rfl (lw_hg rfl rfl rfl) rfl rfl rfl ?_
  refine am_meth_mono 60 _ _ _ _ _ (fun v9 m9 h9 => ?_) hm
  obtain ⟨z2, I2, L2, rfl, rfl, rfl, hR2⟩ := h9
  show am_Run (some (N, xs)) (am_meth 60) 258 R 510 [some (.float 0), some (.ref 0), some (.ref 113), some (.int (nI s))] [.int z2, .int z2] (am_mk I2 L2, b)
  refine ar_br (t := 1335) (q := 513) am_c_eq rfl rfl rfl (fun _ => ?_) (fun c => absurd rfl c)
  exact ih _ _ hR2
set_option maxRecDepth 20000 in
theorem lw_take {N s : Nat} {xs : Nat → Int32} {b : Nat × Nat} {R : am_R} {I : am_V} {L : Nat → Nat → Int64} (h5 : s + 5 ≤ N) (hN : N ≤ 2560) (hR : RelE I) (ih : ∀ (I : am_V) (L : Nat → Nat → Int64), RelE I → am_Run (some (N, xs)) (am_meth 60) 258 R 1335 [some (.float 0), some (.ref 0), some (.ref 113), some (.int (nI s))] [] (am_mk I L, b)) : am_Run (some (N, xs)) (am_meth 60) 258 R 515 [some (.float 0), some (.ref 0), some (.ref 113), some (.int (nI s))] [] (am_mk I L, b) := by
  refine ar_aload_n (j := 1) (q := 516) rfl rfl rfl rfl ?_
  refine ar_aload_nx (j := 0) (q := 517) rfl rfl rfl rfl ?_
  refine ar_iload_n (j := 3) (q := 518) rfl rfl rfl rfl ?_
  refine ar_iconst (v := 1) (q := 519) rfl rfl rfl ?_
  refine ar_ib (i := .iadd) (z := nI s + 1) (q := 520) rfl rfl rfl rfl rfl ?_
  refine ar_sld (v := xs (s + 1)) (q := 521) rfl rfl (am_inE (nI_add s 1) (by omega) (by omega)) (am_clE (n := N) (nI_add s 1) (by omega) (by omega)) rfl ?_
  refine ar_aload_nx (j := 0) (q := 522) rfl rfl rfl rfl ?_
  refine ar_iload_n (j := 3) (q := 523) rfl rfl rfl rfl ?_
  refine ar_iconst (v := 2) (q := 524) rfl rfl rfl ?_
  refine ar_ib (i := .iadd) (z := nI s + 2) (q := 525) rfl rfl rfl rfl rfl ?_
  refine ar_sld (v := xs (s + 2)) (q := 526) rfl rfl (am_inE (nI_add s 2) (by omega) (by omega)) (am_clE (n := N) (nI_add s 2) (by omega) (by omega)) rfl ?_
  refine ar_invv (as := [.int (xs (s + 1)), .int (xs (s + 2))]) (rest := []) (b2 := (0, 0)) (b3 := b) (q := 529) rfl rfl rfl rfl mk_0 rfl (lw_hg rfl rfl rfl) rfl rfl rfl ?_
  refine am_meth_mono 60 _ _ _ _ _ (fun v9 m9 h9 => ?_) (op_take I L hR)
  obtain ⟨z, I1, L1, rfl, rfl, hm⟩ := h9
  show am_Run (some (N, xs)) (am_meth 60) 258 R 529 [some (.float 0), some (.ref 0), some (.ref 113), some (.int (nI s))] [.int z] (am_mk I1 L1, b)
  refine ar_aload_n (j := 2) (q := 530) rfl rfl rfl rfl ?_
  refine ar_aload_nx (j := 0) (q := 531) rfl rfl rfl rfl ?_
  refine ar_iload_n (j := 3) (q := 532) rfl rfl rfl rfl ?_
  refine ar_iconst (v := 1) (q := 533) rfl rfl rfl ?_
  refine ar_ib (i := .iadd) (z := nI s + 1) (q := 534) rfl rfl rfl rfl rfl ?_
  refine ar_sld (v := xs (s + 1)) (q := 535) rfl rfl (am_inE (nI_add s 1) (by omega) (by omega)) (am_clE (n := N) (nI_add s 1) (by omega) (by omega)) rfl ?_
  refine ar_aload_nx (j := 0) (q := 536) rfl rfl rfl rfl ?_
  refine ar_iload_n (j := 3) (q := 537) rfl rfl rfl rfl ?_
  refine ar_iconst (v := 2) (q := 538) rfl rfl rfl ?_
  refine ar_ib (i := .iadd) (z := nI s + 2) (q := 539) rfl rfl rfl rfl rfl ?_
  refine ar_sld (v := xs (s + 2)) (q := 540) rfl rfl (am_inE (nI_add s 2) (by omega) (by omega)) (am_clE (n := N) (nI_add s 2) (by omega) (by omega)) rfl ?_
  refine ar_invv (as := [.int (xs (s + 1)), .int (xs (s + 2))]) (rest := [.int z]) (b2 := (0, 0)) (b3 := b) (q := 543) rfl rfl rfl rfl mk_113 rfl (lw_hg rfl rfl rfl) rfl rfl rfl ?_
  refine am_meth_mono 60 _ _ _ _ _ (fun v9 m9 h9 => ?_) hm
  obtain ⟨z2, I2, L2, rfl, rfl, rfl, hR2⟩ := h9
  show am_Run (some (N, xs)) (am_meth 60) 258 R 543 [some (.float 0), some (.ref 0), some (.ref 113), some (.int (nI s))] [.int z2, .int z2] (am_mk I2 L2, b)
  refine ar_br (t := 1335) (q := 546) am_c_eq rfl rfl rfl (fun _ => ?_) (fun c => absurd rfl c)
  exact ih _ _ hR2
set_option maxRecDepth 20000 in
theorem lw_cancel {N s : Nat} {xs : Nat → Int32} {b : Nat × Nat} {R : am_R} {I : am_V} {L : Nat → Nat → Int64} (h5 : s + 5 ≤ N) (hN : N ≤ 2560) (hR : RelE I) (ih : ∀ (I : am_V) (L : Nat → Nat → Int64), RelE I → am_Run (some (N, xs)) (am_meth 60) 258 R 1335 [some (.float 0), some (.ref 0), some (.ref 113), some (.int (nI s))] [] (am_mk I L, b)) : am_Run (some (N, xs)) (am_meth 60) 258 R 548 [some (.float 0), some (.ref 0), some (.ref 113), some (.int (nI s))] [] (am_mk I L, b) := by
  refine ar_aload_n (j := 1) (q := 549) rfl rfl rfl rfl ?_
  refine ar_aload_nx (j := 0) (q := 550) rfl rfl rfl rfl ?_
  refine ar_iload_n (j := 3) (q := 551) rfl rfl rfl rfl ?_
  refine ar_iconst (v := 1) (q := 552) rfl rfl rfl ?_
  refine ar_ib (i := .iadd) (z := nI s + 1) (q := 553) rfl rfl rfl rfl rfl ?_
  refine ar_sld (v := xs (s + 1)) (q := 554) rfl rfl (am_inE (nI_add s 1) (by omega) (by omega)) (am_clE (n := N) (nI_add s 1) (by omega) (by omega)) rfl ?_
  refine ar_invv (as := [.int (xs (s + 1))]) (rest := []) (b2 := (0, 0)) (b3 := b) (q := 557) rfl rfl rfl rfl mk_0 rfl (lw_hg rfl rfl rfl) rfl rfl rfl ?_
  refine am_meth_mono 60 _ _ _ _ _ (fun v9 m9 h9 => ?_) (op_cancel I L hR)
  obtain ⟨z, I1, L1, rfl, rfl, hm⟩ := h9
  show am_Run (some (N, xs)) (am_meth 60) 258 R 557 [some (.float 0), some (.ref 0), some (.ref 113), some (.int (nI s))] [.int z] (am_mk I1 L1, b)
  refine ar_aload_n (j := 2) (q := 558) rfl rfl rfl rfl ?_
  refine ar_aload_nx (j := 0) (q := 559) rfl rfl rfl rfl ?_
  refine ar_iload_n (j := 3) (q := 560) rfl rfl rfl rfl ?_
  refine ar_iconst (v := 1) (q := 561) rfl rfl rfl ?_
  refine ar_ib (i := .iadd) (z := nI s + 1) (q := 562) rfl rfl rfl rfl rfl ?_
  refine ar_sld (v := xs (s + 1)) (q := 563) rfl rfl (am_inE (nI_add s 1) (by omega) (by omega)) (am_clE (n := N) (nI_add s 1) (by omega) (by omega)) rfl ?_
  refine ar_invv (as := [.int (xs (s + 1))]) (rest := [.int z]) (b2 := (0, 0)) (b3 := b) (q := 566) rfl rfl rfl rfl mk_113 rfl (lw_hg rfl rfl rfl) rfl rfl rfl ?_
  refine am_meth_mono 60 _ _ _ _ _ (fun v9 m9 h9 => ?_) hm
  obtain ⟨z2, I2, L2, rfl, rfl, rfl, hR2⟩ := h9
  show am_Run (some (N, xs)) (am_meth 60) 258 R 566 [some (.float 0), some (.ref 0), some (.ref 113), some (.int (nI s))] [.int z2, .int z2] (am_mk I2 L2, b)
  refine ar_br (t := 1335) (q := 569) am_c_eq rfl rfl rfl (fun _ => ?_) (fun c => absurd rfl c)
  exact ih _ _ hR2
set_option maxRecDepth 20000 in
theorem lw_where {N s : Nat} {xs : Nat → Int32} {b : Nat × Nat} {R : am_R} {I : am_V} {L : Nat → Nat → Int64} (h5 : s + 5 ≤ N) (hN : N ≤ 2560) (hR : RelE I) (ih : ∀ (I : am_V) (L : Nat → Nat → Int64), RelE I → am_Run (some (N, xs)) (am_meth 60) 258 R 1335 [some (.float 0), some (.ref 0), some (.ref 113), some (.int (nI s))] [] (am_mk I L, b)) : am_Run (some (N, xs)) (am_meth 60) 258 R 571 [some (.float 0), some (.ref 0), some (.ref 113), some (.int (nI s))] [] (am_mk I L, b) := by
  refine ar_aload_n (j := 1) (q := 572) rfl rfl rfl rfl ?_
  refine ar_aload_nx (j := 0) (q := 573) rfl rfl rfl rfl ?_
  refine ar_iload_n (j := 3) (q := 574) rfl rfl rfl rfl ?_
  refine ar_iconst (v := 1) (q := 575) rfl rfl rfl ?_
  refine ar_ib (i := .iadd) (z := nI s + 1) (q := 576) rfl rfl rfl rfl rfl ?_
  refine ar_sld (v := xs (s + 1)) (q := 577) rfl rfl (am_inE (nI_add s 1) (by omega) (by omega)) (am_clE (n := N) (nI_add s 1) (by omega) (by omega)) rfl ?_
  refine ar_aload_nx (j := 0) (q := 578) rfl rfl rfl rfl ?_
  refine ar_iload_n (j := 3) (q := 579) rfl rfl rfl rfl ?_
  refine ar_iconst (v := 2) (q := 580) rfl rfl rfl ?_
  refine ar_ib (i := .iadd) (z := nI s + 2) (q := 581) rfl rfl rfl rfl rfl ?_
  refine ar_sld (v := xs (s + 2)) (q := 582) rfl rfl (am_inE (nI_add s 2) (by omega) (by omega)) (am_clE (n := N) (nI_add s 2) (by omega) (by omega)) rfl ?_
  refine ar_invv (as := [.int (xs (s + 1)), .int (xs (s + 2))]) (rest := []) (b2 := (0, 0)) (b3 := b) (q := 585) rfl rfl rfl rfl mk_0 rfl (lw_hg rfl rfl rfl) rfl rfl rfl ?_
  refine am_meth_mono 60 _ _ _ _ _ (fun v9 m9 h9 => ?_) (op_where I L hR)
  obtain ⟨z, I1, L1, rfl, rfl, hm⟩ := h9
  show am_Run (some (N, xs)) (am_meth 60) 258 R 585 [some (.float 0), some (.ref 0), some (.ref 113), some (.int (nI s))] [.int z] (am_mk I1 L1, b)
  refine ar_aload_n (j := 2) (q := 586) rfl rfl rfl rfl ?_
  refine ar_aload_nx (j := 0) (q := 587) rfl rfl rfl rfl ?_
  refine ar_iload_n (j := 3) (q := 588) rfl rfl rfl rfl ?_
  refine ar_iconst (v := 1) (q := 589) rfl rfl rfl ?_
  refine ar_ib (i := .iadd) (z := nI s + 1) (q := 590) rfl rfl rfl rfl rfl ?_
  refine ar_sld (v := xs (s + 1)) (q := 591) rfl rfl (am_inE (nI_add s 1) (by omega) (by omega)) (am_clE (n := N) (nI_add s 1) (by omega) (by omega)) rfl ?_
  refine ar_aload_nx (j := 0) (q := 592) rfl rfl rfl rfl ?_
  refine ar_iload_n (j := 3) (q := 593) rfl rfl rfl rfl ?_
  refine ar_iconst (v := 2) (q := 594) rfl rfl rfl ?_
  refine ar_ib (i := .iadd) (z := nI s + 2) (q := 595) rfl rfl rfl rfl rfl ?_
  refine ar_sld (v := xs (s + 2)) (q := 596) rfl rfl (am_inE (nI_add s 2) (by omega) (by omega)) (am_clE (n := N) (nI_add s 2) (by omega) (by omega)) rfl ?_
  refine ar_invv (as := [.int (xs (s + 1)), .int (xs (s + 2))]) (rest := [.int z]) (b2 := (0, 0)) (b3 := b) (q := 599) rfl rfl rfl rfl mk_113 rfl (lw_hg rfl rfl rfl) rfl rfl rfl ?_
  refine am_meth_mono 60 _ _ _ _ _ (fun v9 m9 h9 => ?_) hm
  obtain ⟨z2, I2, L2, rfl, rfl, rfl, hR2⟩ := h9
  show am_Run (some (N, xs)) (am_meth 60) 258 R 599 [some (.float 0), some (.ref 0), some (.ref 113), some (.int (nI s))] [.int z2, .int z2] (am_mk I2 L2, b)
  refine ar_br (t := 1335) (q := 602) am_c_eq rfl rfl rfl (fun _ => ?_) (fun c => absurd rfl c)
  exact ih _ _ hR2
set_option maxRecDepth 20000 in
theorem lw_feed {N s : Nat} {xs : Nat → Int32} {b : Nat × Nat} {R : am_R} {I : am_V} {L : Nat → Nat → Int64} (h5 : s + 5 ≤ N) (hN : N ≤ 2560) (hR : RelE I) (ih : ∀ (I : am_V) (L : Nat → Nat → Int64), RelE I → am_Run (some (N, xs)) (am_meth 60) 258 R 1335 [some (.float 0), some (.ref 0), some (.ref 113), some (.int (nI s))] [] (am_mk I L, b)) : am_Run (some (N, xs)) (am_meth 60) 258 R 604 [some (.float 0), some (.ref 0), some (.ref 113), some (.int (nI s))] [] (am_mk I L, b) := by
  refine ar_aload_n (j := 1) (q := 605) rfl rfl rfl rfl ?_
  refine ar_aload_nx (j := 0) (q := 606) rfl rfl rfl rfl ?_
  refine ar_iload_n (j := 3) (q := 607) rfl rfl rfl rfl ?_
  refine ar_iconst (v := 1) (q := 608) rfl rfl rfl ?_
  refine ar_ib (i := .iadd) (z := nI s + 1) (q := 609) rfl rfl rfl rfl rfl ?_
  refine ar_sld (v := xs (s + 1)) (q := 610) rfl rfl (am_inE (nI_add s 1) (by omega) (by omega)) (am_clE (n := N) (nI_add s 1) (by omega) (by omega)) rfl ?_
  refine ar_aload_nx (j := 0) (q := 611) rfl rfl rfl rfl ?_
  refine ar_iload_n (j := 3) (q := 612) rfl rfl rfl rfl ?_
  refine ar_iconst (v := 2) (q := 613) rfl rfl rfl ?_
  refine ar_ib (i := .iadd) (z := nI s + 2) (q := 614) rfl rfl rfl rfl rfl ?_
  refine ar_sld (v := xs (s + 2)) (q := 615) rfl rfl (am_inE (nI_add s 2) (by omega) (by omega)) (am_clE (n := N) (nI_add s 2) (by omega) (by omega)) rfl ?_
  refine ar_st (i := .i2l) (n := 1) (st' := [.long ((xs (s + 2) : Int32).toInt64), .int (xs (s + 1)), .ref 0]) (q := 616) rfl rfl rfl rfl ?_
  refine ar_bipush (v := 32) (q := 618) rfl rfl rfl ?_
  refine ar_st (i := .lshl) (n := 1) (st' := [.long (((xs (s + 2) : Int32).toInt64) <<< ((32 : Int32).toInt64 &&& 63)), .int (xs (s + 1)), .ref 0]) (q := 619) rfl rfl rfl rfl ?_
  refine ar_aload_nx (j := 0) (q := 620) rfl rfl rfl rfl ?_
  refine ar_iload_n (j := 3) (q := 621) rfl rfl rfl rfl ?_
  refine ar_iconst (v := 3) (q := 622) rfl rfl rfl ?_
  refine ar_ib (i := .iadd) (z := nI s + 3) (q := 623) rfl rfl rfl rfl rfl ?_
  refine ar_sld (v := xs (s + 3)) (q := 624) rfl rfl (am_inE (nI_add s 3) (by omega) (by omega)) (am_clE (n := N) (nI_add s 3) (by omega) (by omega)) rfl ?_
  refine ar_st (i := .i2l) (n := 1) (st' := [.long ((xs (s + 3) : Int32).toInt64), .long (((xs (s + 2) : Int32).toInt64) <<< ((32 : Int32).toInt64 &&& 63)), .int (xs (s + 1)), .ref 0]) (q := 625) rfl rfl rfl rfl ?_
  refine ar_ldc2 (v := 4294967295) (q := 628) rfl rfl rfl ?_
  refine ar_lb (i := .land) (z := ((xs (s + 3) : Int32).toInt64) &&& (4294967295 : Int64)) (q := 629) rfl rfl rfl rfl rfl rfl ?_
  refine ar_lb (i := .lor) (z := (((xs (s + 2) : Int32).toInt64) <<< ((32 : Int32).toInt64 &&& 63)) ||| (((xs (s + 3) : Int32).toInt64) &&& (4294967295 : Int64))) (q := 630) rfl rfl rfl rfl rfl rfl ?_
  refine ar_invv (as := [.int (xs (s + 1)), .long ((((xs (s + 2) : Int32).toInt64) <<< ((32 : Int32).toInt64 &&& 63)) ||| (((xs (s + 3) : Int32).toInt64) &&& (4294967295 : Int64)))]) (rest := []) (b2 := (0, 0)) (b3 := b) (q := 633) rfl rfl rfl rfl mk_0 rfl (lw_hg rfl rfl rfl) rfl rfl rfl ?_
  refine am_meth_mono 60 _ _ _ _ _ (fun v9 m9 h9 => ?_) (op_feed I L hR)
  obtain ⟨z, I1, L1, rfl, rfl, hm⟩ := h9
  show am_Run (some (N, xs)) (am_meth 60) 258 R 633 [some (.float 0), some (.ref 0), some (.ref 113), some (.int (nI s))] [.int z] (am_mk I1 L1, b)
  refine ar_aload_n (j := 2) (q := 634) rfl rfl rfl rfl ?_
  refine ar_aload_nx (j := 0) (q := 635) rfl rfl rfl rfl ?_
  refine ar_iload_n (j := 3) (q := 636) rfl rfl rfl rfl ?_
  refine ar_iconst (v := 1) (q := 637) rfl rfl rfl ?_
  refine ar_ib (i := .iadd) (z := nI s + 1) (q := 638) rfl rfl rfl rfl rfl ?_
  refine ar_sld (v := xs (s + 1)) (q := 639) rfl rfl (am_inE (nI_add s 1) (by omega) (by omega)) (am_clE (n := N) (nI_add s 1) (by omega) (by omega)) rfl ?_
  refine ar_aload_nx (j := 0) (q := 640) rfl rfl rfl rfl ?_
  refine ar_iload_n (j := 3) (q := 641) rfl rfl rfl rfl ?_
  refine ar_iconst (v := 2) (q := 642) rfl rfl rfl ?_
  refine ar_ib (i := .iadd) (z := nI s + 2) (q := 643) rfl rfl rfl rfl rfl ?_
  refine ar_sld (v := xs (s + 2)) (q := 644) rfl rfl (am_inE (nI_add s 2) (by omega) (by omega)) (am_clE (n := N) (nI_add s 2) (by omega) (by omega)) rfl ?_
  refine ar_st (i := .i2l) (n := 1) (st' := [.long ((xs (s + 2) : Int32).toInt64), .int (xs (s + 1)), .ref 113, .int z]) (q := 645) rfl rfl rfl rfl ?_
  refine ar_bipush (v := 32) (q := 647) rfl rfl rfl ?_
  refine ar_st (i := .lshl) (n := 1) (st' := [.long (((xs (s + 2) : Int32).toInt64) <<< ((32 : Int32).toInt64 &&& 63)), .int (xs (s + 1)), .ref 113, .int z]) (q := 648) rfl rfl rfl rfl ?_
  refine ar_aload_nx (j := 0) (q := 649) rfl rfl rfl rfl ?_
  refine ar_iload_n (j := 3) (q := 650) rfl rfl rfl rfl ?_
  refine ar_iconst (v := 3) (q := 651) rfl rfl rfl ?_
  refine ar_ib (i := .iadd) (z := nI s + 3) (q := 652) rfl rfl rfl rfl rfl ?_
  refine ar_sld (v := xs (s + 3)) (q := 653) rfl rfl (am_inE (nI_add s 3) (by omega) (by omega)) (am_clE (n := N) (nI_add s 3) (by omega) (by omega)) rfl ?_
  refine ar_st (i := .i2l) (n := 1) (st' := [.long ((xs (s + 3) : Int32).toInt64), .long (((xs (s + 2) : Int32).toInt64) <<< ((32 : Int32).toInt64 &&& 63)), .int (xs (s + 1)), .ref 113, .int z]) (q := 654) rfl rfl rfl rfl ?_
  refine ar_ldc2 (v := 4294967295) (q := 657) rfl rfl rfl ?_
  refine ar_lb (i := .land) (z := ((xs (s + 3) : Int32).toInt64) &&& (4294967295 : Int64)) (q := 658) rfl rfl rfl rfl rfl rfl ?_
  refine ar_lb (i := .lor) (z := (((xs (s + 2) : Int32).toInt64) <<< ((32 : Int32).toInt64 &&& 63)) ||| (((xs (s + 3) : Int32).toInt64) &&& (4294967295 : Int64))) (q := 659) rfl rfl rfl rfl rfl rfl ?_
  refine ar_invv (as := [.int (xs (s + 1)), .long ((((xs (s + 2) : Int32).toInt64) <<< ((32 : Int32).toInt64 &&& 63)) ||| (((xs (s + 3) : Int32).toInt64) &&& (4294967295 : Int64)))]) (rest := [.int z]) (b2 := (0, 0)) (b3 := b) (q := 662) rfl rfl rfl rfl mk_113 rfl (lw_hg rfl rfl rfl) rfl rfl rfl ?_
  refine am_meth_mono 60 _ _ _ _ _ (fun v9 m9 h9 => ?_) hm
  obtain ⟨z2, I2, L2, rfl, rfl, rfl, hR2⟩ := h9
  show am_Run (some (N, xs)) (am_meth 60) 258 R 662 [some (.float 0), some (.ref 0), some (.ref 113), some (.int (nI s))] [.int z2, .int z2] (am_mk I2 L2, b)
  refine ar_br (t := 1335) (q := 665) am_c_eq rfl rfl rfl (fun _ => ?_) (fun c => absurd rfl c)
  exact ih _ _ hR2
set_option maxRecDepth 20000 in
theorem lw_term {N s : Nat} {xs : Nat → Int32} {b : Nat × Nat} {R : am_R} {I : am_V} {L : Nat → Nat → Int64} (h5 : s + 5 ≤ N) (hN : N ≤ 2560) (hR : RelE I) (ih : ∀ (I : am_V) (L : Nat → Nat → Int64), RelE I → am_Run (some (N, xs)) (am_meth 60) 258 R 1335 [some (.float 0), some (.ref 0), some (.ref 113), some (.int (nI s))] [] (am_mk I L, b)) : am_Run (some (N, xs)) (am_meth 60) 258 R 667 [some (.float 0), some (.ref 0), some (.ref 113), some (.int (nI s))] [] (am_mk I L, b) := by
  refine ar_aload_n (j := 1) (q := 668) rfl rfl rfl rfl ?_
  refine ar_aload_nx (j := 0) (q := 669) rfl rfl rfl rfl ?_
  refine ar_iload_n (j := 3) (q := 670) rfl rfl rfl rfl ?_
  refine ar_iconst (v := 1) (q := 671) rfl rfl rfl ?_
  refine ar_ib (i := .iadd) (z := nI s + 1) (q := 672) rfl rfl rfl rfl rfl ?_
  refine ar_sld (v := xs (s + 1)) (q := 673) rfl rfl (am_inE (nI_add s 1) (by omega) (by omega)) (am_clE (n := N) (nI_add s 1) (by omega) (by omega)) rfl ?_
  refine ar_aload_nx (j := 0) (q := 674) rfl rfl rfl rfl ?_
  refine ar_iload_n (j := 3) (q := 675) rfl rfl rfl rfl ?_
  refine ar_iconst (v := 2) (q := 676) rfl rfl rfl ?_
  refine ar_ib (i := .iadd) (z := nI s + 2) (q := 677) rfl rfl rfl rfl rfl ?_
  refine ar_sld (v := xs (s + 2)) (q := 678) rfl rfl (am_inE (nI_add s 2) (by omega) (by omega)) (am_clE (n := N) (nI_add s 2) (by omega) (by omega)) rfl ?_
  refine ar_invv (as := [.int (xs (s + 1)), .int (xs (s + 2))]) (rest := []) (b2 := (0, 0)) (b3 := b) (q := 681) rfl rfl rfl rfl mk_0 rfl (lw_hg rfl rfl rfl) rfl rfl rfl ?_
  refine am_meth_mono 60 _ _ _ _ _ (fun v9 m9 h9 => ?_) (op_term I L hR)
  obtain ⟨z, I1, L1, rfl, rfl, hm⟩ := h9
  show am_Run (some (N, xs)) (am_meth 60) 258 R 681 [some (.float 0), some (.ref 0), some (.ref 113), some (.int (nI s))] [.int z] (am_mk I1 L1, b)
  refine ar_aload_n (j := 2) (q := 682) rfl rfl rfl rfl ?_
  refine ar_aload_nx (j := 0) (q := 683) rfl rfl rfl rfl ?_
  refine ar_iload_n (j := 3) (q := 684) rfl rfl rfl rfl ?_
  refine ar_iconst (v := 1) (q := 685) rfl rfl rfl ?_
  refine ar_ib (i := .iadd) (z := nI s + 1) (q := 686) rfl rfl rfl rfl rfl ?_
  refine ar_sld (v := xs (s + 1)) (q := 687) rfl rfl (am_inE (nI_add s 1) (by omega) (by omega)) (am_clE (n := N) (nI_add s 1) (by omega) (by omega)) rfl ?_
  refine ar_aload_nx (j := 0) (q := 688) rfl rfl rfl rfl ?_
  refine ar_iload_n (j := 3) (q := 689) rfl rfl rfl rfl ?_
  refine ar_iconst (v := 2) (q := 690) rfl rfl rfl ?_
  refine ar_ib (i := .iadd) (z := nI s + 2) (q := 691) rfl rfl rfl rfl rfl ?_
  refine ar_sld (v := xs (s + 2)) (q := 692) rfl rfl (am_inE (nI_add s 2) (by omega) (by omega)) (am_clE (n := N) (nI_add s 2) (by omega) (by omega)) rfl ?_
  refine ar_invv (as := [.int (xs (s + 1)), .int (xs (s + 2))]) (rest := [.int z]) (b2 := (0, 0)) (b3 := b) (q := 695) rfl rfl rfl rfl mk_113 rfl (lw_hg rfl rfl rfl) rfl rfl rfl ?_
  refine am_meth_mono 60 _ _ _ _ _ (fun v9 m9 h9 => ?_) hm
  obtain ⟨z2, I2, L2, rfl, rfl, rfl, hR2⟩ := h9
  show am_Run (some (N, xs)) (am_meth 60) 258 R 695 [some (.float 0), some (.ref 0), some (.ref 113), some (.int (nI s))] [.int z2, .int z2] (am_mk I2 L2, b)
  refine ar_br (t := 1335) (q := 698) am_c_eq rfl rfl rfl (fun _ => ?_) (fun c => absurd rfl c)
  exact ih _ _ hR2
set_option maxRecDepth 20000 in
theorem lw_worth {N s : Nat} {xs : Nat → Int32} {b : Nat × Nat} {R : am_R} {I : am_V} {L : Nat → Nat → Int64} (h5 : s + 5 ≤ N) (hN : N ≤ 2560) (hR : RelE I) (ih : ∀ (I : am_V) (L : Nat → Nat → Int64), RelE I → am_Run (some (N, xs)) (am_meth 60) 258 R 1335 [some (.float 0), some (.ref 0), some (.ref 113), some (.int (nI s))] [] (am_mk I L, b)) : am_Run (some (N, xs)) (am_meth 60) 258 R 700 [some (.float 0), some (.ref 0), some (.ref 113), some (.int (nI s))] [] (am_mk I L, b) := by
  refine ar_aload_n (j := 1) (q := 701) rfl rfl rfl rfl ?_
  refine ar_aload_nx (j := 0) (q := 702) rfl rfl rfl rfl ?_
  refine ar_iload_n (j := 3) (q := 703) rfl rfl rfl rfl ?_
  refine ar_iconst (v := 1) (q := 704) rfl rfl rfl ?_
  refine ar_ib (i := .iadd) (z := nI s + 1) (q := 705) rfl rfl rfl rfl rfl ?_
  refine ar_sld (v := xs (s + 1)) (q := 706) rfl rfl (am_inE (nI_add s 1) (by omega) (by omega)) (am_clE (n := N) (nI_add s 1) (by omega) (by omega)) rfl ?_
  refine ar_aload_nx (j := 0) (q := 707) rfl rfl rfl rfl ?_
  refine ar_iload_n (j := 3) (q := 708) rfl rfl rfl rfl ?_
  refine ar_iconst (v := 2) (q := 709) rfl rfl rfl ?_
  refine ar_ib (i := .iadd) (z := nI s + 2) (q := 710) rfl rfl rfl rfl rfl ?_
  refine ar_sld (v := xs (s + 2)) (q := 711) rfl rfl (am_inE (nI_add s 2) (by omega) (by omega)) (am_clE (n := N) (nI_add s 2) (by omega) (by omega)) rfl ?_
  refine ar_invv (as := [.int (xs (s + 1)), .int (xs (s + 2))]) (rest := []) (b2 := (0, 0)) (b3 := b) (q := 714) rfl rfl rfl rfl mk_0 rfl (lw_hg rfl rfl rfl) rfl rfl rfl ?_
  refine am_meth_mono 60 _ _ _ _ _ (fun v9 m9 h9 => ?_) (op_worth I L hR)
  obtain ⟨z, I1, L1, rfl, rfl, hm⟩ := h9
  show am_Run (some (N, xs)) (am_meth 60) 258 R 714 [some (.float 0), some (.ref 0), some (.ref 113), some (.int (nI s))] [.int z] (am_mk I1 L1, b)
  refine ar_aload_n (j := 2) (q := 715) rfl rfl rfl rfl ?_
  refine ar_aload_nx (j := 0) (q := 716) rfl rfl rfl rfl ?_
  refine ar_iload_n (j := 3) (q := 717) rfl rfl rfl rfl ?_
  refine ar_iconst (v := 1) (q := 718) rfl rfl rfl ?_
  refine ar_ib (i := .iadd) (z := nI s + 1) (q := 719) rfl rfl rfl rfl rfl ?_
  refine ar_sld (v := xs (s + 1)) (q := 720) rfl rfl (am_inE (nI_add s 1) (by omega) (by omega)) (am_clE (n := N) (nI_add s 1) (by omega) (by omega)) rfl ?_
  refine ar_aload_nx (j := 0) (q := 721) rfl rfl rfl rfl ?_
  refine ar_iload_n (j := 3) (q := 722) rfl rfl rfl rfl ?_
  refine ar_iconst (v := 2) (q := 723) rfl rfl rfl ?_
  refine ar_ib (i := .iadd) (z := nI s + 2) (q := 724) rfl rfl rfl rfl rfl ?_
  refine ar_sld (v := xs (s + 2)) (q := 725) rfl rfl (am_inE (nI_add s 2) (by omega) (by omega)) (am_clE (n := N) (nI_add s 2) (by omega) (by omega)) rfl ?_
  refine ar_invv (as := [.int (xs (s + 1)), .int (xs (s + 2))]) (rest := [.int z]) (b2 := (0, 0)) (b3 := b) (q := 728) rfl rfl rfl rfl mk_113 rfl (lw_hg rfl rfl rfl) rfl rfl rfl ?_
  refine am_meth_mono 60 _ _ _ _ _ (fun v9 m9 h9 => ?_) hm
  obtain ⟨z2, I2, L2, rfl, rfl, rfl, hR2⟩ := h9
  show am_Run (some (N, xs)) (am_meth 60) 258 R 728 [some (.float 0), some (.ref 0), some (.ref 113), some (.int (nI s))] [.int z2, .int z2] (am_mk I2 L2, b)
  refine ar_br (t := 1335) (q := 731) am_c_eq rfl rfl rfl (fun _ => ?_) (fun c => absurd rfl c)
  exact ih _ _ hR2
set_option maxRecDepth 20000 in
theorem lw_review {N s : Nat} {xs : Nat → Int32} {b : Nat × Nat} {R : am_R} {I : am_V} {L : Nat → Nat → Int64} (h5 : s + 5 ≤ N) (hN : N ≤ 2560) (hR : RelE I) (ih : ∀ (I : am_V) (L : Nat → Nat → Int64), RelE I → am_Run (some (N, xs)) (am_meth 60) 258 R 1335 [some (.float 0), some (.ref 0), some (.ref 113), some (.int (nI s))] [] (am_mk I L, b)) : am_Run (some (N, xs)) (am_meth 60) 258 R 733 [some (.float 0), some (.ref 0), some (.ref 113), some (.int (nI s))] [] (am_mk I L, b) := by
  refine ar_aload_n (j := 1) (q := 734) rfl rfl rfl rfl ?_
  refine ar_aload_nx (j := 0) (q := 735) rfl rfl rfl rfl ?_
  refine ar_iload_n (j := 3) (q := 736) rfl rfl rfl rfl ?_
  refine ar_iconst (v := 1) (q := 737) rfl rfl rfl ?_
  refine ar_ib (i := .iadd) (z := nI s + 1) (q := 738) rfl rfl rfl rfl rfl ?_
  refine ar_sld (v := xs (s + 1)) (q := 739) rfl rfl (am_inE (nI_add s 1) (by omega) (by omega)) (am_clE (n := N) (nI_add s 1) (by omega) (by omega)) rfl ?_
  refine ar_aload_nx (j := 0) (q := 740) rfl rfl rfl rfl ?_
  refine ar_iload_n (j := 3) (q := 741) rfl rfl rfl rfl ?_
  refine ar_iconst (v := 2) (q := 742) rfl rfl rfl ?_
  refine ar_ib (i := .iadd) (z := nI s + 2) (q := 743) rfl rfl rfl rfl rfl ?_
  refine ar_sld (v := xs (s + 2)) (q := 744) rfl rfl (am_inE (nI_add s 2) (by omega) (by omega)) (am_clE (n := N) (nI_add s 2) (by omega) (by omega)) rfl ?_
  refine ar_b0 (t := 751) (q := 747) am_c_eq rfl rfl rfl (fun c0 => ?_) (fun c0 => ?_)
  · refine ar_iconst (v := 0) (q := 752) rfl rfl rfl ?_
    refine ar_aload_nx (j := 0) (q := 753) rfl rfl rfl rfl ?_
    refine ar_iload_n (j := 3) (q := 754) rfl rfl rfl rfl ?_
    refine ar_iconst (v := 3) (q := 755) rfl rfl rfl ?_
    refine ar_ib (i := .iadd) (z := nI s + 3) (q := 756) rfl rfl rfl rfl rfl ?_
    refine ar_sld (v := xs (s + 3)) (q := 757) rfl rfl (am_inE (nI_add s 3) (by omega) (by omega)) (am_clE (n := N) (nI_add s 3) (by omega) (by omega)) rfl ?_
    refine ar_invv (as := [.int (xs (s + 1)), .int 0, .int (xs (s + 3))]) (rest := []) (b2 := (0, 0)) (b3 := b) (q := 760) rfl rfl rfl rfl mk_0 rfl (lw_hg rfl rfl rfl) rfl rfl rfl ?_
    refine am_meth_mono 60 _ _ _ _ _ (fun v9 m9 h9 => ?_) (op_review I L hR)
    obtain ⟨z, I1, L1, rfl, rfl, hm⟩ := h9
    show am_Run (some (N, xs)) (am_meth 60) 258 R 760 [some (.float 0), some (.ref 0), some (.ref 113), some (.int (nI s))] [.int z] (am_mk I1 L1, b)
    refine ar_aload_n (j := 2) (q := 761) rfl rfl rfl rfl ?_
    refine ar_aload_nx (j := 0) (q := 762) rfl rfl rfl rfl ?_
    refine ar_iload_n (j := 3) (q := 763) rfl rfl rfl rfl ?_
    refine ar_iconst (v := 1) (q := 764) rfl rfl rfl ?_
    refine ar_ib (i := .iadd) (z := nI s + 1) (q := 765) rfl rfl rfl rfl rfl ?_
    refine ar_sld (v := xs (s + 1)) (q := 766) rfl rfl (am_inE (nI_add s 1) (by omega) (by omega)) (am_clE (n := N) (nI_add s 1) (by omega) (by omega)) rfl ?_
    refine ar_aload_nx (j := 0) (q := 767) rfl rfl rfl rfl ?_
    refine ar_iload_n (j := 3) (q := 768) rfl rfl rfl rfl ?_
    refine ar_iconst (v := 2) (q := 769) rfl rfl rfl ?_
    refine ar_ib (i := .iadd) (z := nI s + 2) (q := 770) rfl rfl rfl rfl rfl ?_
    refine ar_sld (v := xs (s + 2)) (q := 771) rfl rfl (am_inE (nI_add s 2) (by omega) (by omega)) (am_clE (n := N) (nI_add s 2) (by omega) (by omega)) rfl ?_
    refine ar_b0 (t := 778) (q := 774) am_c_eq rfl rfl rfl (fun _ => ?_) (fun c => absurd c0 c)
    refine ar_iconst (v := 0) (q := 779) rfl rfl rfl ?_
    refine ar_aload_nx (j := 0) (q := 780) rfl rfl rfl rfl ?_
    refine ar_iload_n (j := 3) (q := 781) rfl rfl rfl rfl ?_
    refine ar_iconst (v := 3) (q := 782) rfl rfl rfl ?_
    refine ar_ib (i := .iadd) (z := nI s + 3) (q := 783) rfl rfl rfl rfl rfl ?_
    refine ar_sld (v := xs (s + 3)) (q := 784) rfl rfl (am_inE (nI_add s 3) (by omega) (by omega)) (am_clE (n := N) (nI_add s 3) (by omega) (by omega)) rfl ?_
    refine ar_invv (as := [.int (xs (s + 1)), .int 0, .int (xs (s + 3))]) (rest := [.int z]) (b2 := (0, 0)) (b3 := b) (q := 787) rfl rfl rfl rfl mk_113 rfl (lw_hg rfl rfl rfl) rfl rfl rfl ?_
    refine am_meth_mono 60 _ _ _ _ _ (fun v9 m9 h9 => ?_) hm
    obtain ⟨z2, I2, L2, rfl, rfl, rfl, hR2⟩ := h9
    show am_Run (some (N, xs)) (am_meth 60) 258 R 787 [some (.float 0), some (.ref 0), some (.ref 113), some (.int (nI s))] [.int z2, .int z2] (am_mk I2 L2, b)
    refine ar_br (t := 1335) (q := 790) am_c_eq rfl rfl rfl (fun _ => ?_) (fun c => absurd rfl c)
    exact ih _ _ hR2
  · refine ar_iconst (v := 1) (q := 748) rfl rfl rfl ?_
    refine ar_goto (t := 752) rfl rfl ?_
    refine ar_aload_nx (j := 0) (q := 753) rfl rfl rfl rfl ?_
    refine ar_iload_n (j := 3) (q := 754) rfl rfl rfl rfl ?_
    refine ar_iconst (v := 3) (q := 755) rfl rfl rfl ?_
    refine ar_ib (i := .iadd) (z := nI s + 3) (q := 756) rfl rfl rfl rfl rfl ?_
    refine ar_sld (v := xs (s + 3)) (q := 757) rfl rfl (am_inE (nI_add s 3) (by omega) (by omega)) (am_clE (n := N) (nI_add s 3) (by omega) (by omega)) rfl ?_
    refine ar_invv (as := [.int (xs (s + 1)), .int 1, .int (xs (s + 3))]) (rest := []) (b2 := (0, 0)) (b3 := b) (q := 760) rfl rfl rfl rfl mk_0 rfl (lw_hg rfl rfl rfl) rfl rfl rfl ?_
    refine am_meth_mono 60 _ _ _ _ _ (fun v9 m9 h9 => ?_) (op_review I L hR)
    obtain ⟨z, I1, L1, rfl, rfl, hm⟩ := h9
    show am_Run (some (N, xs)) (am_meth 60) 258 R 760 [some (.float 0), some (.ref 0), some (.ref 113), some (.int (nI s))] [.int z] (am_mk I1 L1, b)
    refine ar_aload_n (j := 2) (q := 761) rfl rfl rfl rfl ?_
    refine ar_aload_nx (j := 0) (q := 762) rfl rfl rfl rfl ?_
    refine ar_iload_n (j := 3) (q := 763) rfl rfl rfl rfl ?_
    refine ar_iconst (v := 1) (q := 764) rfl rfl rfl ?_
    refine ar_ib (i := .iadd) (z := nI s + 1) (q := 765) rfl rfl rfl rfl rfl ?_
    refine ar_sld (v := xs (s + 1)) (q := 766) rfl rfl (am_inE (nI_add s 1) (by omega) (by omega)) (am_clE (n := N) (nI_add s 1) (by omega) (by omega)) rfl ?_
    refine ar_aload_nx (j := 0) (q := 767) rfl rfl rfl rfl ?_
    refine ar_iload_n (j := 3) (q := 768) rfl rfl rfl rfl ?_
    refine ar_iconst (v := 2) (q := 769) rfl rfl rfl ?_
    refine ar_ib (i := .iadd) (z := nI s + 2) (q := 770) rfl rfl rfl rfl rfl ?_
    refine ar_sld (v := xs (s + 2)) (q := 771) rfl rfl (am_inE (nI_add s 2) (by omega) (by omega)) (am_clE (n := N) (nI_add s 2) (by omega) (by omega)) rfl ?_
    refine ar_b0 (t := 778) (q := 774) am_c_eq rfl rfl rfl (fun c => absurd c c0) (fun _ => ?_)
    refine ar_iconst (v := 1) (q := 775) rfl rfl rfl ?_
    refine ar_goto (t := 779) rfl rfl ?_
    refine ar_aload_nx (j := 0) (q := 780) rfl rfl rfl rfl ?_
    refine ar_iload_n (j := 3) (q := 781) rfl rfl rfl rfl ?_
    refine ar_iconst (v := 3) (q := 782) rfl rfl rfl ?_
    refine ar_ib (i := .iadd) (z := nI s + 3) (q := 783) rfl rfl rfl rfl rfl ?_
    refine ar_sld (v := xs (s + 3)) (q := 784) rfl rfl (am_inE (nI_add s 3) (by omega) (by omega)) (am_clE (n := N) (nI_add s 3) (by omega) (by omega)) rfl ?_
    refine ar_invv (as := [.int (xs (s + 1)), .int 1, .int (xs (s + 3))]) (rest := [.int z]) (b2 := (0, 0)) (b3 := b) (q := 787) rfl rfl rfl rfl mk_113 rfl (lw_hg rfl rfl rfl) rfl rfl rfl ?_
    refine am_meth_mono 60 _ _ _ _ _ (fun v9 m9 h9 => ?_) hm
    obtain ⟨z2, I2, L2, rfl, rfl, rfl, hR2⟩ := h9
    show am_Run (some (N, xs)) (am_meth 60) 258 R 787 [some (.float 0), some (.ref 0), some (.ref 113), some (.int (nI s))] [.int z2, .int z2] (am_mk I2 L2, b)
    refine ar_br (t := 1335) (q := 790) am_c_eq rfl rfl rfl (fun _ => ?_) (fun c => absurd rfl c)
    exact ih _ _ hR2
set_option maxRecDepth 20000 in
theorem lw_hand {N s : Nat} {xs : Nat → Int32} {b : Nat × Nat} {R : am_R} {I : am_V} {L : Nat → Nat → Int64} (h5 : s + 5 ≤ N) (hN : N ≤ 2560) (hR : RelE I) (ih : ∀ (I : am_V) (L : Nat → Nat → Int64), RelE I → am_Run (some (N, xs)) (am_meth 60) 258 R 1335 [some (.float 0), some (.ref 0), some (.ref 113), some (.int (nI s))] [] (am_mk I L, b)) : am_Run (some (N, xs)) (am_meth 60) 258 R 792 [some (.float 0), some (.ref 0), some (.ref 113), some (.int (nI s))] [] (am_mk I L, b) := by
  refine ar_aload_n (j := 1) (q := 793) rfl rfl rfl rfl ?_
  refine ar_aload_nx (j := 0) (q := 794) rfl rfl rfl rfl ?_
  refine ar_iload_n (j := 3) (q := 795) rfl rfl rfl rfl ?_
  refine ar_iconst (v := 1) (q := 796) rfl rfl rfl ?_
  refine ar_ib (i := .iadd) (z := nI s + 1) (q := 797) rfl rfl rfl rfl rfl ?_
  refine ar_sld (v := xs (s + 1)) (q := 798) rfl rfl (am_inE (nI_add s 1) (by omega) (by omega)) (am_clE (n := N) (nI_add s 1) (by omega) (by omega)) rfl ?_
  refine ar_aload_nx (j := 0) (q := 799) rfl rfl rfl rfl ?_
  refine ar_iload_n (j := 3) (q := 800) rfl rfl rfl rfl ?_
  refine ar_iconst (v := 2) (q := 801) rfl rfl rfl ?_
  refine ar_ib (i := .iadd) (z := nI s + 2) (q := 802) rfl rfl rfl rfl rfl ?_
  refine ar_sld (v := xs (s + 2)) (q := 803) rfl rfl (am_inE (nI_add s 2) (by omega) (by omega)) (am_clE (n := N) (nI_add s 2) (by omega) (by omega)) rfl ?_
  refine ar_invv (as := [.int (xs (s + 1)), .int (xs (s + 2))]) (rest := []) (b2 := (0, 0)) (b3 := b) (q := 806) rfl rfl rfl rfl mk_0 rfl (lw_hg rfl rfl rfl) rfl rfl rfl ?_
  refine am_meth_mono 60 _ _ _ _ _ (fun v9 m9 h9 => ?_) (op_hand I L hR)
  obtain ⟨z, I1, L1, rfl, rfl, hm⟩ := h9
  show am_Run (some (N, xs)) (am_meth 60) 258 R 806 [some (.float 0), some (.ref 0), some (.ref 113), some (.int (nI s))] [.int z] (am_mk I1 L1, b)
  refine ar_aload_n (j := 2) (q := 807) rfl rfl rfl rfl ?_
  refine ar_aload_nx (j := 0) (q := 808) rfl rfl rfl rfl ?_
  refine ar_iload_n (j := 3) (q := 809) rfl rfl rfl rfl ?_
  refine ar_iconst (v := 1) (q := 810) rfl rfl rfl ?_
  refine ar_ib (i := .iadd) (z := nI s + 1) (q := 811) rfl rfl rfl rfl rfl ?_
  refine ar_sld (v := xs (s + 1)) (q := 812) rfl rfl (am_inE (nI_add s 1) (by omega) (by omega)) (am_clE (n := N) (nI_add s 1) (by omega) (by omega)) rfl ?_
  refine ar_aload_nx (j := 0) (q := 813) rfl rfl rfl rfl ?_
  refine ar_iload_n (j := 3) (q := 814) rfl rfl rfl rfl ?_
  refine ar_iconst (v := 2) (q := 815) rfl rfl rfl ?_
  refine ar_ib (i := .iadd) (z := nI s + 2) (q := 816) rfl rfl rfl rfl rfl ?_
  refine ar_sld (v := xs (s + 2)) (q := 817) rfl rfl (am_inE (nI_add s 2) (by omega) (by omega)) (am_clE (n := N) (nI_add s 2) (by omega) (by omega)) rfl ?_
  refine ar_invv (as := [.int (xs (s + 1)), .int (xs (s + 2))]) (rest := [.int z]) (b2 := (0, 0)) (b3 := b) (q := 820) rfl rfl rfl rfl mk_113 rfl (lw_hg rfl rfl rfl) rfl rfl rfl ?_
  refine am_meth_mono 60 _ _ _ _ _ (fun v9 m9 h9 => ?_) hm
  obtain ⟨z2, I2, L2, rfl, rfl, rfl, hR2⟩ := h9
  show am_Run (some (N, xs)) (am_meth 60) 258 R 820 [some (.float 0), some (.ref 0), some (.ref 113), some (.int (nI s))] [.int z2, .int z2] (am_mk I2 L2, b)
  refine ar_br (t := 1335) (q := 823) am_c_eq rfl rfl rfl (fun _ => ?_) (fun c => absurd rfl c)
  exact ih _ _ hR2
set_option maxRecDepth 20000 in
theorem lw_trust {N s : Nat} {xs : Nat → Int32} {b : Nat × Nat} {R : am_R} {I : am_V} {L : Nat → Nat → Int64} (h5 : s + 5 ≤ N) (hN : N ≤ 2560) (hR : RelE I) (ih : ∀ (I : am_V) (L : Nat → Nat → Int64), RelE I → am_Run (some (N, xs)) (am_meth 60) 258 R 1335 [some (.float 0), some (.ref 0), some (.ref 113), some (.int (nI s))] [] (am_mk I L, b)) : am_Run (some (N, xs)) (am_meth 60) 258 R 825 [some (.float 0), some (.ref 0), some (.ref 113), some (.int (nI s))] [] (am_mk I L, b) := by
  refine ar_aload_n (j := 1) (q := 826) rfl rfl rfl rfl ?_
  refine ar_aload_nx (j := 0) (q := 827) rfl rfl rfl rfl ?_
  refine ar_iload_n (j := 3) (q := 828) rfl rfl rfl rfl ?_
  refine ar_iconst (v := 1) (q := 829) rfl rfl rfl ?_
  refine ar_ib (i := .iadd) (z := nI s + 1) (q := 830) rfl rfl rfl rfl rfl ?_
  refine ar_sld (v := xs (s + 1)) (q := 831) rfl rfl (am_inE (nI_add s 1) (by omega) (by omega)) (am_clE (n := N) (nI_add s 1) (by omega) (by omega)) rfl ?_
  refine ar_aload_nx (j := 0) (q := 832) rfl rfl rfl rfl ?_
  refine ar_iload_n (j := 3) (q := 833) rfl rfl rfl rfl ?_
  refine ar_iconst (v := 2) (q := 834) rfl rfl rfl ?_
  refine ar_ib (i := .iadd) (z := nI s + 2) (q := 835) rfl rfl rfl rfl rfl ?_
  refine ar_sld (v := xs (s + 2)) (q := 836) rfl rfl (am_inE (nI_add s 2) (by omega) (by omega)) (am_clE (n := N) (nI_add s 2) (by omega) (by omega)) rfl ?_
  refine ar_invv (as := [.int (xs (s + 1)), .int (xs (s + 2))]) (rest := []) (b2 := (0, 0)) (b3 := b) (q := 839) rfl rfl rfl rfl mk_0 rfl (lw_hg rfl rfl rfl) rfl rfl rfl ?_
  refine am_meth_mono 60 _ _ _ _ _ (fun v9 m9 h9 => ?_) (op_trust I L hR)
  obtain ⟨z, I1, L1, rfl, rfl, hm⟩ := h9
  show am_Run (some (N, xs)) (am_meth 60) 258 R 839 [some (.float 0), some (.ref 0), some (.ref 113), some (.int (nI s))] [.int z] (am_mk I1 L1, b)
  refine ar_aload_n (j := 2) (q := 840) rfl rfl rfl rfl ?_
  refine ar_aload_nx (j := 0) (q := 841) rfl rfl rfl rfl ?_
  refine ar_iload_n (j := 3) (q := 842) rfl rfl rfl rfl ?_
  refine ar_iconst (v := 1) (q := 843) rfl rfl rfl ?_
  refine ar_ib (i := .iadd) (z := nI s + 1) (q := 844) rfl rfl rfl rfl rfl ?_
  refine ar_sld (v := xs (s + 1)) (q := 845) rfl rfl (am_inE (nI_add s 1) (by omega) (by omega)) (am_clE (n := N) (nI_add s 1) (by omega) (by omega)) rfl ?_
  refine ar_aload_nx (j := 0) (q := 846) rfl rfl rfl rfl ?_
  refine ar_iload_n (j := 3) (q := 847) rfl rfl rfl rfl ?_
  refine ar_iconst (v := 2) (q := 848) rfl rfl rfl ?_
  refine ar_ib (i := .iadd) (z := nI s + 2) (q := 849) rfl rfl rfl rfl rfl ?_
  refine ar_sld (v := xs (s + 2)) (q := 850) rfl rfl (am_inE (nI_add s 2) (by omega) (by omega)) (am_clE (n := N) (nI_add s 2) (by omega) (by omega)) rfl ?_
  refine ar_invv (as := [.int (xs (s + 1)), .int (xs (s + 2))]) (rest := [.int z]) (b2 := (0, 0)) (b3 := b) (q := 853) rfl rfl rfl rfl mk_113 rfl (lw_hg rfl rfl rfl) rfl rfl rfl ?_
  refine am_meth_mono 60 _ _ _ _ _ (fun v9 m9 h9 => ?_) hm
  obtain ⟨z2, I2, L2, rfl, rfl, rfl, hR2⟩ := h9
  show am_Run (some (N, xs)) (am_meth 60) 258 R 853 [some (.float 0), some (.ref 0), some (.ref 113), some (.int (nI s))] [.int z2, .int z2] (am_mk I2 L2, b)
  refine ar_br (t := 1335) (q := 856) am_c_eq rfl rfl rfl (fun _ => ?_) (fun c => absurd rfl c)
  exact ih _ _ hR2
set_option maxRecDepth 20000 in
theorem lw_bound {N s : Nat} {xs : Nat → Int32} {b : Nat × Nat} {R : am_R} {I : am_V} {L : Nat → Nat → Int64} (h5 : s + 5 ≤ N) (hN : N ≤ 2560) (hR : RelE I) (ih : ∀ (I : am_V) (L : Nat → Nat → Int64), RelE I → am_Run (some (N, xs)) (am_meth 60) 258 R 1335 [some (.float 0), some (.ref 0), some (.ref 113), some (.int (nI s))] [] (am_mk I L, b)) : am_Run (some (N, xs)) (am_meth 60) 258 R 858 [some (.float 0), some (.ref 0), some (.ref 113), some (.int (nI s))] [] (am_mk I L, b) := by
  refine ar_aload_n (j := 1) (q := 859) rfl rfl rfl rfl ?_
  refine ar_aload_nx (j := 0) (q := 860) rfl rfl rfl rfl ?_
  refine ar_iload_n (j := 3) (q := 861) rfl rfl rfl rfl ?_
  refine ar_iconst (v := 1) (q := 862) rfl rfl rfl ?_
  refine ar_ib (i := .iadd) (z := nI s + 1) (q := 863) rfl rfl rfl rfl rfl ?_
  refine ar_sld (v := xs (s + 1)) (q := 864) rfl rfl (am_inE (nI_add s 1) (by omega) (by omega)) (am_clE (n := N) (nI_add s 1) (by omega) (by omega)) rfl ?_
  refine ar_aload_nx (j := 0) (q := 865) rfl rfl rfl rfl ?_
  refine ar_iload_n (j := 3) (q := 866) rfl rfl rfl rfl ?_
  refine ar_iconst (v := 2) (q := 867) rfl rfl rfl ?_
  refine ar_ib (i := .iadd) (z := nI s + 2) (q := 868) rfl rfl rfl rfl rfl ?_
  refine ar_sld (v := xs (s + 2)) (q := 869) rfl rfl (am_inE (nI_add s 2) (by omega) (by omega)) (am_clE (n := N) (nI_add s 2) (by omega) (by omega)) rfl ?_
  refine ar_invv (as := [.int (xs (s + 1)), .int (xs (s + 2))]) (rest := []) (b2 := (0, 0)) (b3 := b) (q := 872) rfl rfl rfl rfl mk_0 rfl (lw_hg rfl rfl rfl) rfl rfl rfl ?_
  refine am_meth_mono 60 _ _ _ _ _ (fun v9 m9 h9 => ?_) (op_bound I L hR)
  obtain ⟨z, I1, L1, rfl, rfl, hm⟩ := h9
  show am_Run (some (N, xs)) (am_meth 60) 258 R 872 [some (.float 0), some (.ref 0), some (.ref 113), some (.int (nI s))] [.int z] (am_mk I1 L1, b)
  refine ar_aload_n (j := 2) (q := 873) rfl rfl rfl rfl ?_
  refine ar_aload_nx (j := 0) (q := 874) rfl rfl rfl rfl ?_
  refine ar_iload_n (j := 3) (q := 875) rfl rfl rfl rfl ?_
  refine ar_iconst (v := 1) (q := 876) rfl rfl rfl ?_
  refine ar_ib (i := .iadd) (z := nI s + 1) (q := 877) rfl rfl rfl rfl rfl ?_
  refine ar_sld (v := xs (s + 1)) (q := 878) rfl rfl (am_inE (nI_add s 1) (by omega) (by omega)) (am_clE (n := N) (nI_add s 1) (by omega) (by omega)) rfl ?_
  refine ar_aload_nx (j := 0) (q := 879) rfl rfl rfl rfl ?_
  refine ar_iload_n (j := 3) (q := 880) rfl rfl rfl rfl ?_
  refine ar_iconst (v := 2) (q := 881) rfl rfl rfl ?_
  refine ar_ib (i := .iadd) (z := nI s + 2) (q := 882) rfl rfl rfl rfl rfl ?_
  refine ar_sld (v := xs (s + 2)) (q := 883) rfl rfl (am_inE (nI_add s 2) (by omega) (by omega)) (am_clE (n := N) (nI_add s 2) (by omega) (by omega)) rfl ?_
  refine ar_invv (as := [.int (xs (s + 1)), .int (xs (s + 2))]) (rest := [.int z]) (b2 := (0, 0)) (b3 := b) (q := 886) rfl rfl rfl rfl mk_113 rfl (lw_hg rfl rfl rfl) rfl rfl rfl ?_
  refine am_meth_mono 60 _ _ _ _ _ (fun v9 m9 h9 => ?_) hm
  obtain ⟨z2, I2, L2, rfl, rfl, rfl, hR2⟩ := h9
  show am_Run (some (N, xs)) (am_meth 60) 258 R 886 [some (.float 0), some (.ref 0), some (.ref 113), some (.int (nI s))] [.int z2, .int z2] (am_mk I2 L2, b)
  refine ar_br (t := 1335) (q := 889) am_c_eq rfl rfl rfl (fun _ => ?_) (fun c => absurd rfl c)
  exact ih _ _ hR2
set_option maxRecDepth 20000 in
theorem lw_stars {N s : Nat} {xs : Nat → Int32} {b : Nat × Nat} {R : am_R} {I : am_V} {L : Nat → Nat → Int64} (h5 : s + 5 ≤ N) (hN : N ≤ 2560) (hR : RelE I) (ih : ∀ (I : am_V) (L : Nat → Nat → Int64), RelE I → am_Run (some (N, xs)) (am_meth 60) 258 R 1335 [some (.float 0), some (.ref 0), some (.ref 113), some (.int (nI s))] [] (am_mk I L, b)) : am_Run (some (N, xs)) (am_meth 60) 258 R 891 [some (.float 0), some (.ref 0), some (.ref 113), some (.int (nI s))] [] (am_mk I L, b) := by
  refine ar_aload_n (j := 1) (q := 892) rfl rfl rfl rfl ?_
  refine ar_aload_nx (j := 0) (q := 893) rfl rfl rfl rfl ?_
  refine ar_iload_n (j := 3) (q := 894) rfl rfl rfl rfl ?_
  refine ar_iconst (v := 1) (q := 895) rfl rfl rfl ?_
  refine ar_ib (i := .iadd) (z := nI s + 1) (q := 896) rfl rfl rfl rfl rfl ?_
  refine ar_sld (v := xs (s + 1)) (q := 897) rfl rfl (am_inE (nI_add s 1) (by omega) (by omega)) (am_clE (n := N) (nI_add s 1) (by omega) (by omega)) rfl ?_
  refine ar_aload_nx (j := 0) (q := 898) rfl rfl rfl rfl ?_
  refine ar_iload_n (j := 3) (q := 899) rfl rfl rfl rfl ?_
  refine ar_iconst (v := 2) (q := 900) rfl rfl rfl ?_
  refine ar_ib (i := .iadd) (z := nI s + 2) (q := 901) rfl rfl rfl rfl rfl ?_
  refine ar_sld (v := xs (s + 2)) (q := 902) rfl rfl (am_inE (nI_add s 2) (by omega) (by omega)) (am_clE (n := N) (nI_add s 2) (by omega) (by omega)) rfl ?_
  refine ar_invv (as := [.int (xs (s + 1)), .int (xs (s + 2))]) (rest := []) (b2 := (0, 0)) (b3 := b) (q := 905) rfl rfl rfl rfl mk_0 rfl (lw_hg rfl rfl rfl) rfl rfl rfl ?_
  refine am_meth_mono 60 _ _ _ _ _ (fun v9 m9 h9 => ?_) (op_stars I L hR)
  obtain ⟨z, I1, L1, rfl, rfl, hm⟩ := h9
  show am_Run (some (N, xs)) (am_meth 60) 258 R 905 [some (.float 0), some (.ref 0), some (.ref 113), some (.int (nI s))] [.int z] (am_mk I1 L1, b)
  refine ar_aload_n (j := 2) (q := 906) rfl rfl rfl rfl ?_
  refine ar_aload_nx (j := 0) (q := 907) rfl rfl rfl rfl ?_
  refine ar_iload_n (j := 3) (q := 908) rfl rfl rfl rfl ?_
  refine ar_iconst (v := 1) (q := 909) rfl rfl rfl ?_
  refine ar_ib (i := .iadd) (z := nI s + 1) (q := 910) rfl rfl rfl rfl rfl ?_
  refine ar_sld (v := xs (s + 1)) (q := 911) rfl rfl (am_inE (nI_add s 1) (by omega) (by omega)) (am_clE (n := N) (nI_add s 1) (by omega) (by omega)) rfl ?_
  refine ar_aload_nx (j := 0) (q := 912) rfl rfl rfl rfl ?_
  refine ar_iload_n (j := 3) (q := 913) rfl rfl rfl rfl ?_
  refine ar_iconst (v := 2) (q := 914) rfl rfl rfl ?_
  refine ar_ib (i := .iadd) (z := nI s + 2) (q := 915) rfl rfl rfl rfl rfl ?_
  refine ar_sld (v := xs (s + 2)) (q := 916) rfl rfl (am_inE (nI_add s 2) (by omega) (by omega)) (am_clE (n := N) (nI_add s 2) (by omega) (by omega)) rfl ?_
  refine ar_invv (as := [.int (xs (s + 1)), .int (xs (s + 2))]) (rest := [.int z]) (b2 := (0, 0)) (b3 := b) (q := 919) rfl rfl rfl rfl mk_113 rfl (lw_hg rfl rfl rfl) rfl rfl rfl ?_
  refine am_meth_mono 60 _ _ _ _ _ (fun v9 m9 h9 => ?_) hm
  obtain ⟨z2, I2, L2, rfl, rfl, rfl, hR2⟩ := h9
  show am_Run (some (N, xs)) (am_meth 60) 258 R 919 [some (.float 0), some (.ref 0), some (.ref 113), some (.int (nI s))] [.int z2, .int z2] (am_mk I2 L2, b)
  refine ar_br (t := 1335) (q := 922) am_c_eq rfl rfl rfl (fun _ => ?_) (fun c => absurd rfl c)
  exact ih _ _ hR2
set_option maxRecDepth 20000 in
theorem lw_put {N s : Nat} {xs : Nat → Int32} {b : Nat × Nat} {R : am_R} {I : am_V} {L : Nat → Nat → Int64} (h5 : s + 5 ≤ N) (hN : N ≤ 2560) (hR : RelE I) (ih : ∀ (I : am_V) (L : Nat → Nat → Int64), RelE I → am_Run (some (N, xs)) (am_meth 60) 258 R 1335 [some (.float 0), some (.ref 0), some (.ref 113), some (.int (nI s))] [] (am_mk I L, b)) : am_Run (some (N, xs)) (am_meth 60) 258 R 924 [some (.float 0), some (.ref 0), some (.ref 113), some (.int (nI s))] [] (am_mk I L, b) := by
  refine ar_aload_n (j := 1) (q := 925) rfl rfl rfl rfl ?_
  refine ar_aload_nx (j := 0) (q := 926) rfl rfl rfl rfl ?_
  refine ar_iload_n (j := 3) (q := 927) rfl rfl rfl rfl ?_
  refine ar_iconst (v := 1) (q := 928) rfl rfl rfl ?_
  refine ar_ib (i := .iadd) (z := nI s + 1) (q := 929) rfl rfl rfl rfl rfl ?_
  refine ar_sld (v := xs (s + 1)) (q := 930) rfl rfl (am_inE (nI_add s 1) (by omega) (by omega)) (am_clE (n := N) (nI_add s 1) (by omega) (by omega)) rfl ?_
  refine ar_invv (as := [.int (xs (s + 1))]) (rest := []) (b2 := (0, 0)) (b3 := b) (q := 933) rfl rfl rfl rfl mk_0 rfl (lw_hg rfl rfl rfl) rfl rfl rfl ?_
  refine am_meth_mono 60 _ _ _ _ _ (fun v9 m9 h9 => ?_) (op_put I L hR)
  obtain ⟨z, I1, L1, rfl, rfl, hm⟩ := h9
  show am_Run (some (N, xs)) (am_meth 60) 258 R 933 [some (.float 0), some (.ref 0), some (.ref 113), some (.int (nI s))] [.int z] (am_mk I1 L1, b)
  refine ar_aload_n (j := 2) (q := 934) rfl rfl rfl rfl ?_
  refine ar_aload_nx (j := 0) (q := 935) rfl rfl rfl rfl ?_
  refine ar_iload_n (j := 3) (q := 936) rfl rfl rfl rfl ?_
  refine ar_iconst (v := 1) (q := 937) rfl rfl rfl ?_
  refine ar_ib (i := .iadd) (z := nI s + 1) (q := 938) rfl rfl rfl rfl rfl ?_
  refine ar_sld (v := xs (s + 1)) (q := 939) rfl rfl (am_inE (nI_add s 1) (by omega) (by omega)) (am_clE (n := N) (nI_add s 1) (by omega) (by omega)) rfl ?_
  refine ar_invv (as := [.int (xs (s + 1))]) (rest := [.int z]) (b2 := (0, 0)) (b3 := b) (q := 942) rfl rfl rfl rfl mk_113 rfl (lw_hg rfl rfl rfl) rfl rfl rfl ?_
  refine am_meth_mono 60 _ _ _ _ _ (fun v9 m9 h9 => ?_) hm
  obtain ⟨z2, I2, L2, rfl, rfl, rfl, hR2⟩ := h9
  show am_Run (some (N, xs)) (am_meth 60) 258 R 942 [some (.float 0), some (.ref 0), some (.ref 113), some (.int (nI s))] [.int z2, .int z2] (am_mk I2 L2, b)
  refine ar_br (t := 1335) (q := 945) am_c_eq rfl rfl rfl (fun _ => ?_) (fun c => absurd rfl c)
  exact ih _ _ hR2
set_option maxRecDepth 20000 in
theorem lw_unput {N s : Nat} {xs : Nat → Int32} {b : Nat × Nat} {R : am_R} {I : am_V} {L : Nat → Nat → Int64} (h5 : s + 5 ≤ N) (hN : N ≤ 2560) (hR : RelE I) (ih : ∀ (I : am_V) (L : Nat → Nat → Int64), RelE I → am_Run (some (N, xs)) (am_meth 60) 258 R 1335 [some (.float 0), some (.ref 0), some (.ref 113), some (.int (nI s))] [] (am_mk I L, b)) : am_Run (some (N, xs)) (am_meth 60) 258 R 947 [some (.float 0), some (.ref 0), some (.ref 113), some (.int (nI s))] [] (am_mk I L, b) := by
  refine ar_aload_n (j := 1) (q := 948) rfl rfl rfl rfl ?_
  refine ar_invv (as := []) (rest := []) (b2 := (0, 0)) (b3 := b) (q := 951) rfl rfl rfl rfl mk_0 rfl (lw_hg rfl rfl rfl) rfl rfl rfl ?_
  refine am_meth_mono 60 _ _ _ _ _ (fun v9 m9 h9 => ?_) (op_unput I L hR)
  obtain ⟨z, I1, L1, rfl, rfl, hm⟩ := h9
  show am_Run (some (N, xs)) (am_meth 60) 258 R 951 [some (.float 0), some (.ref 0), some (.ref 113), some (.int (nI s))] [.int z] (am_mk I1 L1, b)
  refine ar_aload_n (j := 2) (q := 952) rfl rfl rfl rfl ?_
  refine ar_invv (as := []) (rest := [.int z]) (b2 := (0, 0)) (b3 := b) (q := 955) rfl rfl rfl rfl mk_113 rfl (lw_hg rfl rfl rfl) rfl rfl rfl ?_
  refine am_meth_mono 60 _ _ _ _ _ (fun v9 m9 h9 => ?_) hm
  obtain ⟨z2, I2, L2, rfl, rfl, rfl, hR2⟩ := h9
  show am_Run (some (N, xs)) (am_meth 60) 258 R 955 [some (.float 0), some (.ref 0), some (.ref 113), some (.int (nI s))] [.int z2, .int z2] (am_mk I2 L2, b)
  refine ar_br (t := 1335) (q := 958) am_c_eq rfl rfl rfl (fun _ => ?_) (fun c => absurd rfl c)
  exact ih _ _ hR2
set_option maxRecDepth 20000 in
theorem lw_chain {N s : Nat} {xs : Nat → Int32} {b : Nat × Nat} {R : am_R} {I : am_V} {L : Nat → Nat → Int64} (h5 : s + 5 ≤ N) (hN : N ≤ 2560) (hR : RelE I) (ih : ∀ (I : am_V) (L : Nat → Nat → Int64), RelE I → am_Run (some (N, xs)) (am_meth 60) 258 R 1335 [some (.float 0), some (.ref 0), some (.ref 113), some (.int (nI s))] [] (am_mk I L, b)) : am_Run (some (N, xs)) (am_meth 60) 258 R 960 [some (.float 0), some (.ref 0), some (.ref 113), some (.int (nI s))] [] (am_mk I L, b) := by
  refine ar_aload_n (j := 1) (q := 961) rfl rfl rfl rfl ?_
  refine ar_aload_nx (j := 0) (q := 962) rfl rfl rfl rfl ?_
  refine ar_iload_n (j := 3) (q := 963) rfl rfl rfl rfl ?_
  refine ar_iconst (v := 1) (q := 964) rfl rfl rfl ?_
  refine ar_ib (i := .iadd) (z := nI s + 1) (q := 965) rfl rfl rfl rfl rfl ?_
  refine ar_sld (v := xs (s + 1)) (q := 966) rfl rfl (am_inE (nI_add s 1) (by omega) (by omega)) (am_clE (n := N) (nI_add s 1) (by omega) (by omega)) rfl ?_
  refine ar_aload_nx (j := 0) (q := 967) rfl rfl rfl rfl ?_
  refine ar_iload_n (j := 3) (q := 968) rfl rfl rfl rfl ?_
  refine ar_iconst (v := 2) (q := 969) rfl rfl rfl ?_
  refine ar_ib (i := .iadd) (z := nI s + 2) (q := 970) rfl rfl rfl rfl rfl ?_
  refine ar_sld (v := xs (s + 2)) (q := 971) rfl rfl (am_inE (nI_add s 2) (by omega) (by omega)) (am_clE (n := N) (nI_add s 2) (by omega) (by omega)) rfl ?_
  refine ar_invv (as := [.int (xs (s + 1)), .int (xs (s + 2))]) (rest := []) (b2 := (0, 0)) (b3 := b) (q := 974) rfl rfl rfl rfl mk_0 rfl (lw_hg rfl rfl rfl) rfl rfl rfl ?_
  refine am_meth_mono 60 _ _ _ _ _ (fun v9 m9 h9 => ?_) (op_chain I L hR)
  obtain ⟨z, I1, L1, rfl, rfl, hm⟩ := h9
  show am_Run (some (N, xs)) (am_meth 60) 258 R 974 [some (.float 0), some (.ref 0), some (.ref 113), some (.int (nI s))] [.int z] (am_mk I1 L1, b)
  refine ar_aload_n (j := 2) (q := 975) rfl rfl rfl rfl ?_
  refine ar_aload_nx (j := 0) (q := 976) rfl rfl rfl rfl ?_
  refine ar_iload_n (j := 3) (q := 977) rfl rfl rfl rfl ?_
  refine ar_iconst (v := 1) (q := 978) rfl rfl rfl ?_
  refine ar_ib (i := .iadd) (z := nI s + 1) (q := 979) rfl rfl rfl rfl rfl ?_
  refine ar_sld (v := xs (s + 1)) (q := 980) rfl rfl (am_inE (nI_add s 1) (by omega) (by omega)) (am_clE (n := N) (nI_add s 1) (by omega) (by omega)) rfl ?_
  refine ar_aload_nx (j := 0) (q := 981) rfl rfl rfl rfl ?_
  refine ar_iload_n (j := 3) (q := 982) rfl rfl rfl rfl ?_
  refine ar_iconst (v := 2) (q := 983) rfl rfl rfl ?_
  refine ar_ib (i := .iadd) (z := nI s + 2) (q := 984) rfl rfl rfl rfl rfl ?_
  refine ar_sld (v := xs (s + 2)) (q := 985) rfl rfl (am_inE (nI_add s 2) (by omega) (by omega)) (am_clE (n := N) (nI_add s 2) (by omega) (by omega)) rfl ?_
  refine ar_invv (as := [.int (xs (s + 1)), .int (xs (s + 2))]) (rest := [.int z]) (b2 := (0, 0)) (b3 := b) (q := 988) rfl rfl rfl rfl mk_113 rfl (lw_hg rfl rfl rfl) rfl rfl rfl ?_
  refine am_meth_mono 60 _ _ _ _ _ (fun v9 m9 h9 => ?_) hm
  obtain ⟨z2, I2, L2, rfl, rfl, rfl, hR2⟩ := h9
  show am_Run (some (N, xs)) (am_meth 60) 258 R 988 [some (.float 0), some (.ref 0), some (.ref 113), some (.int (nI s))] [.int z2, .int z2] (am_mk I2 L2, b)
  refine ar_br (t := 1335) (q := 991) am_c_eq rfl rfl rfl (fun _ => ?_) (fun c => absurd rfl c)
  exact ih _ _ hR2
set_option maxRecDepth 20000 in
theorem lw_wish {N s : Nat} {xs : Nat → Int32} {b : Nat × Nat} {R : am_R} {I : am_V} {L : Nat → Nat → Int64} (h5 : s + 5 ≤ N) (hN : N ≤ 2560) (hR : RelE I) (ih : ∀ (I : am_V) (L : Nat → Nat → Int64), RelE I → am_Run (some (N, xs)) (am_meth 60) 258 R 1335 [some (.float 0), some (.ref 0), some (.ref 113), some (.int (nI s))] [] (am_mk I L, b)) : am_Run (some (N, xs)) (am_meth 60) 258 R 993 [some (.float 0), some (.ref 0), some (.ref 113), some (.int (nI s))] [] (am_mk I L, b) := by
  refine ar_aload_n (j := 1) (q := 994) rfl rfl rfl rfl ?_
  refine ar_aload_nx (j := 0) (q := 995) rfl rfl rfl rfl ?_
  refine ar_iload_n (j := 3) (q := 996) rfl rfl rfl rfl ?_
  refine ar_iconst (v := 1) (q := 997) rfl rfl rfl ?_
  refine ar_ib (i := .iadd) (z := nI s + 1) (q := 998) rfl rfl rfl rfl rfl ?_
  refine ar_sld (v := xs (s + 1)) (q := 999) rfl rfl (am_inE (nI_add s 1) (by omega) (by omega)) (am_clE (n := N) (nI_add s 1) (by omega) (by omega)) rfl ?_
  refine ar_aload_nx (j := 0) (q := 1000) rfl rfl rfl rfl ?_
  refine ar_iload_n (j := 3) (q := 1001) rfl rfl rfl rfl ?_
  refine ar_iconst (v := 2) (q := 1002) rfl rfl rfl ?_
  refine ar_ib (i := .iadd) (z := nI s + 2) (q := 1003) rfl rfl rfl rfl rfl ?_
  refine ar_sld (v := xs (s + 2)) (q := 1004) rfl rfl (am_inE (nI_add s 2) (by omega) (by omega)) (am_clE (n := N) (nI_add s 2) (by omega) (by omega)) rfl ?_
  refine ar_aload_nx (j := 0) (q := 1005) rfl rfl rfl rfl ?_
  refine ar_iload_n (j := 3) (q := 1006) rfl rfl rfl rfl ?_
  refine ar_iconst (v := 3) (q := 1007) rfl rfl rfl ?_
  refine ar_ib (i := .iadd) (z := nI s + 3) (q := 1008) rfl rfl rfl rfl rfl ?_
  refine ar_sld (v := xs (s + 3)) (q := 1009) rfl rfl (am_inE (nI_add s 3) (by omega) (by omega)) (am_clE (n := N) (nI_add s 3) (by omega) (by omega)) rfl ?_
  refine ar_invv (as := [.int (xs (s + 1)), .int (xs (s + 2)), .int (xs (s + 3))]) (rest := []) (b2 := (0, 0)) (b3 := b) (q := 1012) rfl rfl rfl rfl mk_0 rfl (lw_hg rfl rfl rfl) rfl rfl rfl ?_
  refine am_meth_mono 60 _ _ _ _ _ (fun v9 m9 h9 => ?_) (op_wish I L hR)
  obtain ⟨z, I1, L1, rfl, rfl, hm⟩ := h9
  show am_Run (some (N, xs)) (am_meth 60) 258 R 1012 [some (.float 0), some (.ref 0), some (.ref 113), some (.int (nI s))] [.int z] (am_mk I1 L1, b)
  refine ar_aload_n (j := 2) (q := 1013) rfl rfl rfl rfl ?_
  refine ar_aload_nx (j := 0) (q := 1014) rfl rfl rfl rfl ?_
  refine ar_iload_n (j := 3) (q := 1015) rfl rfl rfl rfl ?_
  refine ar_iconst (v := 1) (q := 1016) rfl rfl rfl ?_
  refine ar_ib (i := .iadd) (z := nI s + 1) (q := 1017) rfl rfl rfl rfl rfl ?_
  refine ar_sld (v := xs (s + 1)) (q := 1018) rfl rfl (am_inE (nI_add s 1) (by omega) (by omega)) (am_clE (n := N) (nI_add s 1) (by omega) (by omega)) rfl ?_
  refine ar_aload_nx (j := 0) (q := 1019) rfl rfl rfl rfl ?_
  refine ar_iload_n (j := 3) (q := 1020) rfl rfl rfl rfl ?_
  refine ar_iconst (v := 2) (q := 1021) rfl rfl rfl ?_
  refine ar_ib (i := .iadd) (z := nI s + 2) (q := 1022) rfl rfl rfl rfl rfl ?_
  refine ar_sld (v := xs (s + 2)) (q := 1023) rfl rfl (am_inE (nI_add s 2) (by omega) (by omega)) (am_clE (n := N) (nI_add s 2) (by omega) (by omega)) rfl ?_
  refine ar_aload_nx (j := 0) (q := 1024) rfl rfl rfl rfl ?_
  refine ar_iload_n (j := 3) (q := 1025) rfl rfl rfl rfl ?_
  refine ar_iconst (v := 3) (q := 1026) rfl rfl rfl ?_
  refine ar_ib (i := .iadd) (z := nI s + 3) (q := 1027) rfl rfl rfl rfl rfl ?_
  refine ar_sld (v := xs (s + 3)) (q := 1028) rfl rfl (am_inE (nI_add s 3) (by omega) (by omega)) (am_clE (n := N) (nI_add s 3) (by omega) (by omega)) rfl ?_
  refine ar_invv (as := [.int (xs (s + 1)), .int (xs (s + 2)), .int (xs (s + 3))]) (rest := [.int z]) (b2 := (0, 0)) (b3 := b) (q := 1031) rfl rfl rfl rfl mk_113 rfl (lw_hg rfl rfl rfl) rfl rfl rfl ?_
  refine am_meth_mono 60 _ _ _ _ _ (fun v9 m9 h9 => ?_) hm
  obtain ⟨z2, I2, L2, rfl, rfl, rfl, hR2⟩ := h9
  show am_Run (some (N, xs)) (am_meth 60) 258 R 1031 [some (.float 0), some (.ref 0), some (.ref 113), some (.int (nI s))] [.int z2, .int z2] (am_mk I2 L2, b)
  refine ar_br (t := 1335) (q := 1034) am_c_eq rfl rfl rfl (fun _ => ?_) (fun c => absurd rfl c)
  exact ih _ _ hR2
set_option maxRecDepth 20000 in
theorem lw_pair {N s : Nat} {xs : Nat → Int32} {b : Nat × Nat} {R : am_R} {I : am_V} {L : Nat → Nat → Int64} (h5 : s + 5 ≤ N) (hN : N ≤ 2560) (hR : RelE I) (ih : ∀ (I : am_V) (L : Nat → Nat → Int64), RelE I → am_Run (some (N, xs)) (am_meth 60) 258 R 1335 [some (.float 0), some (.ref 0), some (.ref 113), some (.int (nI s))] [] (am_mk I L, b)) : am_Run (some (N, xs)) (am_meth 60) 258 R 1036 [some (.float 0), some (.ref 0), some (.ref 113), some (.int (nI s))] [] (am_mk I L, b) := by
  refine ar_aload_n (j := 1) (q := 1037) rfl rfl rfl rfl ?_
  refine ar_aload_nx (j := 0) (q := 1038) rfl rfl rfl rfl ?_
  refine ar_iload_n (j := 3) (q := 1039) rfl rfl rfl rfl ?_
  refine ar_iconst (v := 1) (q := 1040) rfl rfl rfl ?_
  refine ar_ib (i := .iadd) (z := nI s + 1) (q := 1041) rfl rfl rfl rfl rfl ?_
  refine ar_sld (v := xs (s + 1)) (q := 1042) rfl rfl (am_inE (nI_add s 1) (by omega) (by omega)) (am_clE (n := N) (nI_add s 1) (by omega) (by omega)) rfl ?_
  refine ar_invv (as := [.int (xs (s + 1))]) (rest := []) (b2 := (0, 0)) (b3 := b) (q := 1045) rfl rfl rfl rfl mk_0 rfl (lw_hg rfl rfl rfl) rfl rfl rfl ?_
  refine am_meth_mono 60 _ _ _ _ _ (fun v9 m9 h9 => ?_) (op_pair I L hR)
  obtain ⟨z, I1, L1, rfl, rfl, hm⟩ := h9
  show am_Run (some (N, xs)) (am_meth 60) 258 R 1045 [some (.float 0), some (.ref 0), some (.ref 113), some (.int (nI s))] [.int z] (am_mk I1 L1, b)
  refine ar_aload_n (j := 2) (q := 1046) rfl rfl rfl rfl ?_
  refine ar_aload_nx (j := 0) (q := 1047) rfl rfl rfl rfl ?_
  refine ar_iload_n (j := 3) (q := 1048) rfl rfl rfl rfl ?_
  refine ar_iconst (v := 1) (q := 1049) rfl rfl rfl ?_
  refine ar_ib (i := .iadd) (z := nI s + 1) (q := 1050) rfl rfl rfl rfl rfl ?_
  refine ar_sld (v := xs (s + 1)) (q := 1051) rfl rfl (am_inE (nI_add s 1) (by omega) (by omega)) (am_clE (n := N) (nI_add s 1) (by omega) (by omega)) rfl ?_
  refine ar_invv (as := [.int (xs (s + 1))]) (rest := [.int z]) (b2 := (0, 0)) (b3 := b) (q := 1054) rfl rfl rfl rfl mk_113 rfl (lw_hg rfl rfl rfl) rfl rfl rfl ?_
  refine am_meth_mono 60 _ _ _ _ _ (fun v9 m9 h9 => ?_) hm
  obtain ⟨z2, I2, L2, rfl, rfl, rfl, hR2⟩ := h9
  show am_Run (some (N, xs)) (am_meth 60) 258 R 1054 [some (.float 0), some (.ref 0), some (.ref 113), some (.int (nI s))] [.int z2, .int z2] (am_mk I2 L2, b)
  refine ar_br (t := 1335) (q := 1057) am_c_eq rfl rfl rfl (fun _ => ?_) (fun c => absurd rfl c)
  exact ih _ _ hR2
set_option maxRecDepth 20000 in
theorem lw_tell {N s : Nat} {xs : Nat → Int32} {b : Nat × Nat} {R : am_R} {I : am_V} {L : Nat → Nat → Int64} (h5 : s + 5 ≤ N) (hN : N ≤ 2560) (hR : RelE I) (ih : ∀ (I : am_V) (L : Nat → Nat → Int64), RelE I → am_Run (some (N, xs)) (am_meth 60) 258 R 1335 [some (.float 0), some (.ref 0), some (.ref 113), some (.int (nI s))] [] (am_mk I L, b)) : am_Run (some (N, xs)) (am_meth 60) 258 R 1059 [some (.float 0), some (.ref 0), some (.ref 113), some (.int (nI s))] [] (am_mk I L, b) := by
  refine ar_aload_n (j := 1) (q := 1060) rfl rfl rfl rfl ?_
  refine ar_aload_nx (j := 0) (q := 1061) rfl rfl rfl rfl ?_
  refine ar_iload_n (j := 3) (q := 1062) rfl rfl rfl rfl ?_
  refine ar_iconst (v := 1) (q := 1063) rfl rfl rfl ?_
  refine ar_ib (i := .iadd) (z := nI s + 1) (q := 1064) rfl rfl rfl rfl rfl ?_
  refine ar_sld (v := xs (s + 1)) (q := 1065) rfl rfl (am_inE (nI_add s 1) (by omega) (by omega)) (am_clE (n := N) (nI_add s 1) (by omega) (by omega)) rfl ?_
  refine ar_invv (as := [.int (xs (s + 1))]) (rest := []) (b2 := (0, 0)) (b3 := b) (q := 1068) rfl rfl rfl rfl mk_0 rfl (lw_hg rfl rfl rfl) rfl rfl rfl ?_
  refine am_meth_mono 60 _ _ _ _ _ (fun v9 m9 h9 => ?_) (op_tell I L hR)
  obtain ⟨z, I1, L1, rfl, rfl, hm⟩ := h9
  show am_Run (some (N, xs)) (am_meth 60) 258 R 1068 [some (.float 0), some (.ref 0), some (.ref 113), some (.int (nI s))] [.int z] (am_mk I1 L1, b)
  refine ar_aload_n (j := 2) (q := 1069) rfl rfl rfl rfl ?_
  refine ar_aload_nx (j := 0) (q := 1070) rfl rfl rfl rfl ?_
  refine ar_iload_n (j := 3) (q := 1071) rfl rfl rfl rfl ?_
  refine ar_iconst (v := 1) (q := 1072) rfl rfl rfl ?_
  refine ar_ib (i := .iadd) (z := nI s + 1) (q := 1073) rfl rfl rfl rfl rfl ?_
  refine ar_sld (v := xs (s + 1)) (q := 1074) rfl rfl (am_inE (nI_add s 1) (by omega) (by omega)) (am_clE (n := N) (nI_add s 1) (by omega) (by omega)) rfl ?_
  refine ar_invv (as := [.int (xs (s + 1))]) (rest := [.int z]) (b2 := (0, 0)) (b3 := b) (q := 1077) rfl rfl rfl rfl mk_113 rfl (lw_hg rfl rfl rfl) rfl rfl rfl ?_
  refine am_meth_mono 60 _ _ _ _ _ (fun v9 m9 h9 => ?_) hm
  obtain ⟨z2, I2, L2, rfl, rfl, rfl, hR2⟩ := h9
  show am_Run (some (N, xs)) (am_meth 60) 258 R 1077 [some (.float 0), some (.ref 0), some (.ref 113), some (.int (nI s))] [.int z2, .int z2] (am_mk I2 L2, b)
  refine ar_br (t := 1335) (q := 1080) am_c_eq rfl rfl rfl (fun _ => ?_) (fun c => absurd rfl c)
  exact ih _ _ hR2
set_option maxRecDepth 20000 in
theorem lw_judge {N s : Nat} {xs : Nat → Int32} {b : Nat × Nat} {R : am_R} {I : am_V} {L : Nat → Nat → Int64} (h5 : s + 5 ≤ N) (hN : N ≤ 2560) (hR : RelE I) (ih : ∀ (I : am_V) (L : Nat → Nat → Int64), RelE I → am_Run (some (N, xs)) (am_meth 60) 258 R 1335 [some (.float 0), some (.ref 0), some (.ref 113), some (.int (nI s))] [] (am_mk I L, b)) : am_Run (some (N, xs)) (am_meth 60) 258 R 1082 [some (.float 0), some (.ref 0), some (.ref 113), some (.int (nI s))] [] (am_mk I L, b) := by
  refine ar_aload_n (j := 1) (q := 1083) rfl rfl rfl rfl ?_
  refine ar_invv (as := []) (rest := []) (b2 := (0, 0)) (b3 := b) (q := 1086) rfl rfl rfl rfl mk_0 rfl (lw_hg rfl rfl rfl) rfl rfl rfl ?_
  refine am_meth_mono 60 _ _ _ _ _ (fun v9 m9 h9 => ?_) (op_judge I L hR)
  obtain ⟨z, I1, L1, rfl, rfl, hm⟩ := h9
  show am_Run (some (N, xs)) (am_meth 60) 258 R 1086 [some (.float 0), some (.ref 0), some (.ref 113), some (.int (nI s))] [.int z] (am_mk I1 L1, b)
  refine ar_aload_n (j := 2) (q := 1087) rfl rfl rfl rfl ?_
  refine ar_invv (as := []) (rest := [.int z]) (b2 := (0, 0)) (b3 := b) (q := 1090) rfl rfl rfl rfl mk_113 rfl (lw_hg rfl rfl rfl) rfl rfl rfl ?_
  refine am_meth_mono 60 _ _ _ _ _ (fun v9 m9 h9 => ?_) hm
  obtain ⟨z2, I2, L2, rfl, rfl, rfl, hR2⟩ := h9
  show am_Run (some (N, xs)) (am_meth 60) 258 R 1090 [some (.float 0), some (.ref 0), some (.ref 113), some (.int (nI s))] [.int z2, .int z2] (am_mk I2 L2, b)
  refine ar_br (t := 1335) (q := 1093) am_c_eq rfl rfl rfl (fun _ => ?_) (fun c => absurd rfl c)
  exact ih _ _ hR2
set_option maxRecDepth 20000 in
theorem lw_whoElse {N s : Nat} {xs : Nat → Int32} {b : Nat × Nat} {R : am_R} {I : am_V} {L : Nat → Nat → Int64} (h5 : s + 5 ≤ N) (hN : N ≤ 2560) (hR : RelE I) (ih : ∀ (I : am_V) (L : Nat → Nat → Int64), RelE I → am_Run (some (N, xs)) (am_meth 60) 258 R 1335 [some (.float 0), some (.ref 0), some (.ref 113), some (.int (nI s))] [] (am_mk I L, b)) : am_Run (some (N, xs)) (am_meth 60) 258 R 1095 [some (.float 0), some (.ref 0), some (.ref 113), some (.int (nI s))] [] (am_mk I L, b) := by
  refine ar_aload_n (j := 1) (q := 1096) rfl rfl rfl rfl ?_
  refine ar_aload_nx (j := 0) (q := 1097) rfl rfl rfl rfl ?_
  refine ar_iload_n (j := 3) (q := 1098) rfl rfl rfl rfl ?_
  refine ar_iconst (v := 1) (q := 1099) rfl rfl rfl ?_
  refine ar_ib (i := .iadd) (z := nI s + 1) (q := 1100) rfl rfl rfl rfl rfl ?_
  refine ar_sld (v := xs (s + 1)) (q := 1101) rfl rfl (am_inE (nI_add s 1) (by omega) (by omega)) (am_clE (n := N) (nI_add s 1) (by omega) (by omega)) rfl ?_
  refine ar_invv (as := [.int (xs (s + 1))]) (rest := []) (b2 := (0, 0)) (b3 := b) (q := 1104) rfl rfl rfl rfl mk_0 rfl (lw_hg rfl rfl rfl) rfl rfl rfl ?_
  refine am_meth_mono 60 _ _ _ _ _ (fun v9 m9 h9 => ?_) (op_whoElse I L hR)
  obtain ⟨z, I1, L1, rfl, rfl, hm⟩ := h9
  show am_Run (some (N, xs)) (am_meth 60) 258 R 1104 [some (.float 0), some (.ref 0), some (.ref 113), some (.int (nI s))] [.int z] (am_mk I1 L1, b)
  refine ar_aload_n (j := 2) (q := 1105) rfl rfl rfl rfl ?_
  refine ar_aload_nx (j := 0) (q := 1106) rfl rfl rfl rfl ?_
  refine ar_iload_n (j := 3) (q := 1107) rfl rfl rfl rfl ?_
  refine ar_iconst (v := 1) (q := 1108) rfl rfl rfl ?_
  refine ar_ib (i := .iadd) (z := nI s + 1) (q := 1109) rfl rfl rfl rfl rfl ?_
  refine ar_sld (v := xs (s + 1)) (q := 1110) rfl rfl (am_inE (nI_add s 1) (by omega) (by omega)) (am_clE (n := N) (nI_add s 1) (by omega) (by omega)) rfl ?_
  refine ar_invv (as := [.int (xs (s + 1))]) (rest := [.int z]) (b2 := (0, 0)) (b3 := b) (q := 1113) rfl rfl rfl rfl mk_113 rfl (lw_hg rfl rfl rfl) rfl rfl rfl ?_
  refine am_meth_mono 60 _ _ _ _ _ (fun v9 m9 h9 => ?_) hm
  obtain ⟨z2, I2, L2, rfl, rfl, rfl, hR2⟩ := h9
  show am_Run (some (N, xs)) (am_meth 60) 258 R 1113 [some (.float 0), some (.ref 0), some (.ref 113), some (.int (nI s))] [.int z2, .int z2] (am_mk I2 L2, b)
  refine ar_br (t := 1335) (q := 1116) am_c_eq rfl rfl rfl (fun _ => ?_) (fun c => absurd rfl c)
  exact ih _ _ hR2
set_option maxRecDepth 20000 in
theorem lw_place {N s : Nat} {xs : Nat → Int32} {b : Nat × Nat} {R : am_R} {I : am_V} {L : Nat → Nat → Int64} (h5 : s + 5 ≤ N) (hN : N ≤ 2560) (hR : RelE I) (ih : ∀ (I : am_V) (L : Nat → Nat → Int64), RelE I → am_Run (some (N, xs)) (am_meth 60) 258 R 1335 [some (.float 0), some (.ref 0), some (.ref 113), some (.int (nI s))] [] (am_mk I L, b)) : am_Run (some (N, xs)) (am_meth 60) 258 R 1118 [some (.float 0), some (.ref 0), some (.ref 113), some (.int (nI s))] [] (am_mk I L, b) := by
  refine ar_aload_n (j := 1) (q := 1119) rfl rfl rfl rfl ?_
  refine ar_aload_nx (j := 0) (q := 1120) rfl rfl rfl rfl ?_
  refine ar_iload_n (j := 3) (q := 1121) rfl rfl rfl rfl ?_
  refine ar_iconst (v := 1) (q := 1122) rfl rfl rfl ?_
  refine ar_ib (i := .iadd) (z := nI s + 1) (q := 1123) rfl rfl rfl rfl rfl ?_
  refine ar_sld (v := xs (s + 1)) (q := 1124) rfl rfl (am_inE (nI_add s 1) (by omega) (by omega)) (am_clE (n := N) (nI_add s 1) (by omega) (by omega)) rfl ?_
  refine ar_invv (as := [.int (xs (s + 1))]) (rest := []) (b2 := (0, 0)) (b3 := b) (q := 1127) rfl rfl rfl rfl mk_0 rfl (lw_hg rfl rfl rfl) rfl rfl rfl ?_
  refine am_meth_mono 60 _ _ _ _ _ (fun v9 m9 h9 => ?_) (op_place I L hR)
  obtain ⟨z, I1, L1, rfl, rfl, hm⟩ := h9
  show am_Run (some (N, xs)) (am_meth 60) 258 R 1127 [some (.float 0), some (.ref 0), some (.ref 113), some (.int (nI s))] [.int z] (am_mk I1 L1, b)
  refine ar_aload_n (j := 2) (q := 1128) rfl rfl rfl rfl ?_
  refine ar_aload_nx (j := 0) (q := 1129) rfl rfl rfl rfl ?_
  refine ar_iload_n (j := 3) (q := 1130) rfl rfl rfl rfl ?_
  refine ar_iconst (v := 1) (q := 1131) rfl rfl rfl ?_
  refine ar_ib (i := .iadd) (z := nI s + 1) (q := 1132) rfl rfl rfl rfl rfl ?_
  refine ar_sld (v := xs (s + 1)) (q := 1133) rfl rfl (am_inE (nI_add s 1) (by omega) (by omega)) (am_clE (n := N) (nI_add s 1) (by omega) (by omega)) rfl ?_
  refine ar_invv (as := [.int (xs (s + 1))]) (rest := [.int z]) (b2 := (0, 0)) (b3 := b) (q := 1136) rfl rfl rfl rfl mk_113 rfl (lw_hg rfl rfl rfl) rfl rfl rfl ?_
  refine am_meth_mono 60 _ _ _ _ _ (fun v9 m9 h9 => ?_) hm
  obtain ⟨z2, I2, L2, rfl, rfl, rfl, hR2⟩ := h9
  show am_Run (some (N, xs)) (am_meth 60) 258 R 1136 [some (.float 0), some (.ref 0), some (.ref 113), some (.int (nI s))] [.int z2, .int z2] (am_mk I2 L2, b)
  refine ar_br (t := 1335) (q := 1139) am_c_eq rfl rfl rfl (fun _ => ?_) (fun c => absurd rfl c)
  exact ih _ _ hR2
set_option maxRecDepth 20000 in
theorem lw_group {N s : Nat} {xs : Nat → Int32} {b : Nat × Nat} {R : am_R} {I : am_V} {L : Nat → Nat → Int64} (h5 : s + 5 ≤ N) (hN : N ≤ 2560) (hR : RelE I) (ih : ∀ (I : am_V) (L : Nat → Nat → Int64), RelE I → am_Run (some (N, xs)) (am_meth 60) 258 R 1335 [some (.float 0), some (.ref 0), some (.ref 113), some (.int (nI s))] [] (am_mk I L, b)) : am_Run (some (N, xs)) (am_meth 60) 258 R 1141 [some (.float 0), some (.ref 0), some (.ref 113), some (.int (nI s))] [] (am_mk I L, b) := by
  refine ar_aload_n (j := 1) (q := 1142) rfl rfl rfl rfl ?_
  refine ar_aload_nx (j := 0) (q := 1143) rfl rfl rfl rfl ?_
  refine ar_iload_n (j := 3) (q := 1144) rfl rfl rfl rfl ?_
  refine ar_iconst (v := 1) (q := 1145) rfl rfl rfl ?_
  refine ar_ib (i := .iadd) (z := nI s + 1) (q := 1146) rfl rfl rfl rfl rfl ?_
  refine ar_sld (v := xs (s + 1)) (q := 1147) rfl rfl (am_inE (nI_add s 1) (by omega) (by omega)) (am_clE (n := N) (nI_add s 1) (by omega) (by omega)) rfl ?_
  refine ar_invv (as := [.int (xs (s + 1))]) (rest := []) (b2 := (0, 0)) (b3 := b) (q := 1150) rfl rfl rfl rfl mk_0 rfl (lw_hg rfl rfl rfl) rfl rfl rfl ?_
  refine am_meth_mono 60 _ _ _ _ _ (fun v9 m9 h9 => ?_) (op_group I L hR)
  obtain ⟨z, I1, L1, rfl, rfl, hm⟩ := h9
  show am_Run (some (N, xs)) (am_meth 60) 258 R 1150 [some (.float 0), some (.ref 0), some (.ref 113), some (.int (nI s))] [.int z] (am_mk I1 L1, b)
  refine ar_aload_n (j := 2) (q := 1151) rfl rfl rfl rfl ?_
  refine ar_aload_nx (j := 0) (q := 1152) rfl rfl rfl rfl ?_
  refine ar_iload_n (j := 3) (q := 1153) rfl rfl rfl rfl ?_
  refine ar_iconst (v := 1) (q := 1154) rfl rfl rfl ?_
  refine ar_ib (i := .iadd) (z := nI s + 1) (q := 1155) rfl rfl rfl rfl rfl ?_
  refine ar_sld (v := xs (s + 1)) (q := 1156) rfl rfl (am_inE (nI_add s 1) (by omega) (by omega)) (am_clE (n := N) (nI_add s 1) (by omega) (by omega)) rfl ?_
  refine ar_invv (as := [.int (xs (s + 1))]) (rest := [.int z]) (b2 := (0, 0)) (b3 := b) (q := 1159) rfl rfl rfl rfl mk_113 rfl (lw_hg rfl rfl rfl) rfl rfl rfl ?_
  refine am_meth_mono 60 _ _ _ _ _ (fun v9 m9 h9 => ?_) hm
  obtain ⟨z2, I2, L2, rfl, rfl, rfl, hR2⟩ := h9
  show am_Run (some (N, xs)) (am_meth 60) 258 R 1159 [some (.float 0), some (.ref 0), some (.ref 113), some (.int (nI s))] [.int z2, .int z2] (am_mk I2 L2, b)
  refine ar_br (t := 1335) (q := 1162) am_c_eq rfl rfl rfl (fun _ => ?_) (fun c => absurd rfl c)
  exact ih _ _ hR2
set_option maxRecDepth 20000 in
theorem lw_list {N s : Nat} {xs : Nat → Int32} {b : Nat × Nat} {R : am_R} {I : am_V} {L : Nat → Nat → Int64} (h5 : s + 5 ≤ N) (hN : N ≤ 2560) (hR : RelE I) (ih : ∀ (I : am_V) (L : Nat → Nat → Int64), RelE I → am_Run (some (N, xs)) (am_meth 60) 258 R 1335 [some (.float 0), some (.ref 0), some (.ref 113), some (.int (nI s))] [] (am_mk I L, b)) : am_Run (some (N, xs)) (am_meth 60) 258 R 1164 [some (.float 0), some (.ref 0), some (.ref 113), some (.int (nI s))] [] (am_mk I L, b) := by
  refine ar_aload_n (j := 1) (q := 1165) rfl rfl rfl rfl ?_
  refine ar_aload_nx (j := 0) (q := 1166) rfl rfl rfl rfl ?_
  refine ar_iload_n (j := 3) (q := 1167) rfl rfl rfl rfl ?_
  refine ar_iconst (v := 1) (q := 1168) rfl rfl rfl ?_
  refine ar_ib (i := .iadd) (z := nI s + 1) (q := 1169) rfl rfl rfl rfl rfl ?_
  refine ar_sld (v := xs (s + 1)) (q := 1170) rfl rfl (am_inE (nI_add s 1) (by omega) (by omega)) (am_clE (n := N) (nI_add s 1) (by omega) (by omega)) rfl ?_
  refine ar_aload_nx (j := 0) (q := 1171) rfl rfl rfl rfl ?_
  refine ar_iload_n (j := 3) (q := 1172) rfl rfl rfl rfl ?_
  refine ar_iconst (v := 2) (q := 1173) rfl rfl rfl ?_
  refine ar_ib (i := .iadd) (z := nI s + 2) (q := 1174) rfl rfl rfl rfl rfl ?_
  refine ar_sld (v := xs (s + 2)) (q := 1175) rfl rfl (am_inE (nI_add s 2) (by omega) (by omega)) (am_clE (n := N) (nI_add s 2) (by omega) (by omega)) rfl ?_
  refine ar_b0 (t := 1182) (q := 1178) am_c_eq rfl rfl rfl (fun c0 => ?_) (fun c0 => ?_)
  · refine ar_iconst (v := 0) (q := 1183) rfl rfl rfl ?_
    refine ar_aload_nx (j := 0) (q := 1184) rfl rfl rfl rfl ?_
    refine ar_iload_n (j := 3) (q := 1185) rfl rfl rfl rfl ?_
    refine ar_iconst (v := 3) (q := 1186) rfl rfl rfl ?_
    refine ar_ib (i := .iadd) (z := nI s + 3) (q := 1187) rfl rfl rfl rfl rfl ?_
    refine ar_sld (v := xs (s + 3)) (q := 1188) rfl rfl (am_inE (nI_add s 3) (by omega) (by omega)) (am_clE (n := N) (nI_add s 3) (by omega) (by omega)) rfl ?_
    refine ar_invv (as := [.int (xs (s + 1)), .int 0, .int (xs (s + 3))]) (rest := []) (b2 := (0, 0)) (b3 := b) (q := 1191) rfl rfl rfl rfl mk_0 rfl (lw_hg rfl rfl rfl) rfl rfl rfl ?_
    refine am_meth_mono 60 _ _ _ _ _ (fun v9 m9 h9 => ?_) (op_list I L hR)
    obtain ⟨z, I1, L1, rfl, rfl, hm⟩ := h9
    show am_Run (some (N, xs)) (am_meth 60) 258 R 1191 [some (.float 0), some (.ref 0), some (.ref 113), some (.int (nI s))] [.int z] (am_mk I1 L1, b)
    refine ar_aload_n (j := 2) (q := 1192) rfl rfl rfl rfl ?_
    refine ar_aload_nx (j := 0) (q := 1193) rfl rfl rfl rfl ?_
    refine ar_iload_n (j := 3) (q := 1194) rfl rfl rfl rfl ?_
    refine ar_iconst (v := 1) (q := 1195) rfl rfl rfl ?_
    refine ar_ib (i := .iadd) (z := nI s + 1) (q := 1196) rfl rfl rfl rfl rfl ?_
    refine ar_sld (v := xs (s + 1)) (q := 1197) rfl rfl (am_inE (nI_add s 1) (by omega) (by omega)) (am_clE (n := N) (nI_add s 1) (by omega) (by omega)) rfl ?_
    refine ar_aload_nx (j := 0) (q := 1198) rfl rfl rfl rfl ?_
    refine ar_iload_n (j := 3) (q := 1199) rfl rfl rfl rfl ?_
    refine ar_iconst (v := 2) (q := 1200) rfl rfl rfl ?_
    refine ar_ib (i := .iadd) (z := nI s + 2) (q := 1201) rfl rfl rfl rfl rfl ?_
    refine ar_sld (v := xs (s + 2)) (q := 1202) rfl rfl (am_inE (nI_add s 2) (by omega) (by omega)) (am_clE (n := N) (nI_add s 2) (by omega) (by omega)) rfl ?_
    refine ar_b0 (t := 1209) (q := 1205) am_c_eq rfl rfl rfl (fun _ => ?_) (fun c => absurd c0 c)
    refine ar_iconst (v := 0) (q := 1210) rfl rfl rfl ?_
    refine ar_aload_nx (j := 0) (q := 1211) rfl rfl rfl rfl ?_
    refine ar_iload_n (j := 3) (q := 1212) rfl rfl rfl rfl ?_
    refine ar_iconst (v := 3) (q := 1213) rfl rfl rfl ?_
    refine ar_ib (i := .iadd) (z := nI s + 3) (q := 1214) rfl rfl rfl rfl rfl ?_
    refine ar_sld (v := xs (s + 3)) (q := 1215) rfl rfl (am_inE (nI_add s 3) (by omega) (by omega)) (am_clE (n := N) (nI_add s 3) (by omega) (by omega)) rfl ?_
    refine ar_invv (as := [.int (xs (s + 1)), .int 0, .int (xs (s + 3))]) (rest := [.int z]) (b2 := (0, 0)) (b3 := b) (q := 1218) rfl rfl rfl rfl mk_113 rfl (lw_hg rfl rfl rfl) rfl rfl rfl ?_
    refine am_meth_mono 60 _ _ _ _ _ (fun v9 m9 h9 => ?_) hm
    obtain ⟨z2, I2, L2, rfl, rfl, rfl, hR2⟩ := h9
    show am_Run (some (N, xs)) (am_meth 60) 258 R 1218 [some (.float 0), some (.ref 0), some (.ref 113), some (.int (nI s))] [.int z2, .int z2] (am_mk I2 L2, b)
    refine ar_br (t := 1335) (q := 1221) am_c_eq rfl rfl rfl (fun _ => ?_) (fun c => absurd rfl c)
    exact ih _ _ hR2
  · refine ar_iconst (v := 1) (q := 1179) rfl rfl rfl ?_
    refine ar_goto (t := 1183) rfl rfl ?_
    refine ar_aload_nx (j := 0) (q := 1184) rfl rfl rfl rfl ?_
    refine ar_iload_n (j := 3) (q := 1185) rfl rfl rfl rfl ?_
    refine ar_iconst (v := 3) (q := 1186) rfl rfl rfl ?_
    refine ar_ib (i := .iadd) (z := nI s + 3) (q := 1187) rfl rfl rfl rfl rfl ?_
    refine ar_sld (v := xs (s + 3)) (q := 1188) rfl rfl (am_inE (nI_add s 3) (by omega) (by omega)) (am_clE (n := N) (nI_add s 3) (by omega) (by omega)) rfl ?_
    refine ar_invv (as := [.int (xs (s + 1)), .int 1, .int (xs (s + 3))]) (rest := []) (b2 := (0, 0)) (b3 := b) (q := 1191) rfl rfl rfl rfl mk_0 rfl (lw_hg rfl rfl rfl) rfl rfl rfl ?_
    refine am_meth_mono 60 _ _ _ _ _ (fun v9 m9 h9 => ?_) (op_list I L hR)
    obtain ⟨z, I1, L1, rfl, rfl, hm⟩ := h9
    show am_Run (some (N, xs)) (am_meth 60) 258 R 1191 [some (.float 0), some (.ref 0), some (.ref 113), some (.int (nI s))] [.int z] (am_mk I1 L1, b)
    refine ar_aload_n (j := 2) (q := 1192) rfl rfl rfl rfl ?_
    refine ar_aload_nx (j := 0) (q := 1193) rfl rfl rfl rfl ?_
    refine ar_iload_n (j := 3) (q := 1194) rfl rfl rfl rfl ?_
    refine ar_iconst (v := 1) (q := 1195) rfl rfl rfl ?_
    refine ar_ib (i := .iadd) (z := nI s + 1) (q := 1196) rfl rfl rfl rfl rfl ?_
    refine ar_sld (v := xs (s + 1)) (q := 1197) rfl rfl (am_inE (nI_add s 1) (by omega) (by omega)) (am_clE (n := N) (nI_add s 1) (by omega) (by omega)) rfl ?_
    refine ar_aload_nx (j := 0) (q := 1198) rfl rfl rfl rfl ?_
    refine ar_iload_n (j := 3) (q := 1199) rfl rfl rfl rfl ?_
    refine ar_iconst (v := 2) (q := 1200) rfl rfl rfl ?_
    refine ar_ib (i := .iadd) (z := nI s + 2) (q := 1201) rfl rfl rfl rfl rfl ?_
    refine ar_sld (v := xs (s + 2)) (q := 1202) rfl rfl (am_inE (nI_add s 2) (by omega) (by omega)) (am_clE (n := N) (nI_add s 2) (by omega) (by omega)) rfl ?_
    refine ar_b0 (t := 1209) (q := 1205) am_c_eq rfl rfl rfl (fun c => absurd c c0) (fun _ => ?_)
    refine ar_iconst (v := 1) (q := 1206) rfl rfl rfl ?_
    refine ar_goto (t := 1210) rfl rfl ?_
    refine ar_aload_nx (j := 0) (q := 1211) rfl rfl rfl rfl ?_
    refine ar_iload_n (j := 3) (q := 1212) rfl rfl rfl rfl ?_
    refine ar_iconst (v := 3) (q := 1213) rfl rfl rfl ?_
    refine ar_ib (i := .iadd) (z := nI s + 3) (q := 1214) rfl rfl rfl rfl rfl ?_
    refine ar_sld (v := xs (s + 3)) (q := 1215) rfl rfl (am_inE (nI_add s 3) (by omega) (by omega)) (am_clE (n := N) (nI_add s 3) (by omega) (by omega)) rfl ?_
    refine ar_invv (as := [.int (xs (s + 1)), .int 1, .int (xs (s + 3))]) (rest := [.int z]) (b2 := (0, 0)) (b3 := b) (q := 1218) rfl rfl rfl rfl mk_113 rfl (lw_hg rfl rfl rfl) rfl rfl rfl ?_
    refine am_meth_mono 60 _ _ _ _ _ (fun v9 m9 h9 => ?_) hm
    obtain ⟨z2, I2, L2, rfl, rfl, rfl, hR2⟩ := h9
    show am_Run (some (N, xs)) (am_meth 60) 258 R 1218 [some (.float 0), some (.ref 0), some (.ref 113), some (.int (nI s))] [.int z2, .int z2] (am_mk I2 L2, b)
    refine ar_br (t := 1335) (q := 1221) am_c_eq rfl rfl rfl (fun _ => ?_) (fun c => absurd rfl c)
    exact ih _ _ hR2
set_option maxRecDepth 20000 in
theorem lw_look {N s : Nat} {xs : Nat → Int32} {b : Nat × Nat} {R : am_R} {I : am_V} {L : Nat → Nat → Int64} (h5 : s + 5 ≤ N) (hN : N ≤ 2560) (hR : RelE I) (ih : ∀ (I : am_V) (L : Nat → Nat → Int64), RelE I → am_Run (some (N, xs)) (am_meth 60) 258 R 1335 [some (.float 0), some (.ref 0), some (.ref 113), some (.int (nI s))] [] (am_mk I L, b)) : am_Run (some (N, xs)) (am_meth 60) 258 R 1223 [some (.float 0), some (.ref 0), some (.ref 113), some (.int (nI s))] [] (am_mk I L, b) := by
  refine ar_aload_n (j := 1) (q := 1224) rfl rfl rfl rfl ?_
  refine ar_aload_nx (j := 0) (q := 1225) rfl rfl rfl rfl ?_
  refine ar_iload_n (j := 3) (q := 1226) rfl rfl rfl rfl ?_
  refine ar_iconst (v := 1) (q := 1227) rfl rfl rfl ?_
  refine ar_ib (i := .iadd) (z := nI s + 1) (q := 1228) rfl rfl rfl rfl rfl ?_
  refine ar_sld (v := xs (s + 1)) (q := 1229) rfl rfl (am_inE (nI_add s 1) (by omega) (by omega)) (am_clE (n := N) (nI_add s 1) (by omega) (by omega)) rfl ?_
  refine ar_aload_nx (j := 0) (q := 1230) rfl rfl rfl rfl ?_
  refine ar_iload_n (j := 3) (q := 1231) rfl rfl rfl rfl ?_
  refine ar_iconst (v := 2) (q := 1232) rfl rfl rfl ?_
  refine ar_ib (i := .iadd) (z := nI s + 2) (q := 1233) rfl rfl rfl rfl rfl ?_
  refine ar_sld (v := xs (s + 2)) (q := 1234) rfl rfl (am_inE (nI_add s 2) (by omega) (by omega)) (am_clE (n := N) (nI_add s 2) (by omega) (by omega)) rfl ?_
  refine ar_aload_nx (j := 0) (q := 1235) rfl rfl rfl rfl ?_
  refine ar_iload_n (j := 3) (q := 1236) rfl rfl rfl rfl ?_
  refine ar_iconst (v := 3) (q := 1237) rfl rfl rfl ?_
  refine ar_ib (i := .iadd) (z := nI s + 3) (q := 1238) rfl rfl rfl rfl rfl ?_
  refine ar_sld (v := xs (s + 3)) (q := 1239) rfl rfl (am_inE (nI_add s 3) (by omega) (by omega)) (am_clE (n := N) (nI_add s 3) (by omega) (by omega)) rfl ?_
  refine ar_invv (as := [.int (xs (s + 1)), .int (xs (s + 2)), .int (xs (s + 3))]) (rest := []) (b2 := (0, 0)) (b3 := b) (q := 1242) rfl rfl rfl rfl mk_0 rfl (lw_hg rfl rfl rfl) rfl rfl rfl ?_
  refine am_meth_mono 60 _ _ _ _ _ (fun v9 m9 h9 => ?_) (op_look I L hR)
  obtain ⟨z, I1, L1, rfl, rfl, hm⟩ := h9
  show am_Run (some (N, xs)) (am_meth 60) 258 R 1242 [some (.float 0), some (.ref 0), some (.ref 113), some (.int (nI s))] [.int z] (am_mk I1 L1, b)
  refine ar_aload_n (j := 2) (q := 1243) rfl rfl rfl rfl ?_
  refine ar_aload_nx (j := 0) (q := 1244) rfl rfl rfl rfl ?_
  refine ar_iload_n (j := 3) (q := 1245) rfl rfl rfl rfl ?_
  refine ar_iconst (v := 1) (q := 1246) rfl rfl rfl ?_
  refine ar_ib (i := .iadd) (z := nI s + 1) (q := 1247) rfl rfl rfl rfl rfl ?_
  refine ar_sld (v := xs (s + 1)) (q := 1248) rfl rfl (am_inE (nI_add s 1) (by omega) (by omega)) (am_clE (n := N) (nI_add s 1) (by omega) (by omega)) rfl ?_
  refine ar_aload_nx (j := 0) (q := 1249) rfl rfl rfl rfl ?_
  refine ar_iload_n (j := 3) (q := 1250) rfl rfl rfl rfl ?_
  refine ar_iconst (v := 2) (q := 1251) rfl rfl rfl ?_
  refine ar_ib (i := .iadd) (z := nI s + 2) (q := 1252) rfl rfl rfl rfl rfl ?_
  refine ar_sld (v := xs (s + 2)) (q := 1253) rfl rfl (am_inE (nI_add s 2) (by omega) (by omega)) (am_clE (n := N) (nI_add s 2) (by omega) (by omega)) rfl ?_
  refine ar_aload_nx (j := 0) (q := 1254) rfl rfl rfl rfl ?_
  refine ar_iload_n (j := 3) (q := 1255) rfl rfl rfl rfl ?_
  refine ar_iconst (v := 3) (q := 1256) rfl rfl rfl ?_
  refine ar_ib (i := .iadd) (z := nI s + 3) (q := 1257) rfl rfl rfl rfl rfl ?_
  refine ar_sld (v := xs (s + 3)) (q := 1258) rfl rfl (am_inE (nI_add s 3) (by omega) (by omega)) (am_clE (n := N) (nI_add s 3) (by omega) (by omega)) rfl ?_
  refine ar_invv (as := [.int (xs (s + 1)), .int (xs (s + 2)), .int (xs (s + 3))]) (rest := [.int z]) (b2 := (0, 0)) (b3 := b) (q := 1261) rfl rfl rfl rfl mk_113 rfl (lw_hg rfl rfl rfl) rfl rfl rfl ?_
  refine am_meth_mono 60 _ _ _ _ _ (fun v9 m9 h9 => ?_) hm
  obtain ⟨z2, I2, L2, rfl, rfl, rfl, hR2⟩ := h9
  show am_Run (some (N, xs)) (am_meth 60) 258 R 1261 [some (.float 0), some (.ref 0), some (.ref 113), some (.int (nI s))] [.int z2, .int z2] (am_mk I2 L2, b)
  refine ar_br (t := 1335) (q := 1264) am_c_eq rfl rfl rfl (fun _ => ?_) (fun c => absurd rfl c)
  exact ih _ _ hR2
set_option maxRecDepth 20000 in
theorem lw_gone {N s : Nat} {xs : Nat → Int32} {b : Nat × Nat} {R : am_R} {I : am_V} {L : Nat → Nat → Int64} (h5 : s + 5 ≤ N) (hN : N ≤ 2560) (hR : RelE I) (ih : ∀ (I : am_V) (L : Nat → Nat → Int64), RelE I → am_Run (some (N, xs)) (am_meth 60) 258 R 1335 [some (.float 0), some (.ref 0), some (.ref 113), some (.int (nI s))] [] (am_mk I L, b)) : am_Run (some (N, xs)) (am_meth 60) 258 R 1266 [some (.float 0), some (.ref 0), some (.ref 113), some (.int (nI s))] [] (am_mk I L, b) := by
  refine ar_aload_n (j := 1) (q := 1267) rfl rfl rfl rfl ?_
  refine ar_aload_nx (j := 0) (q := 1268) rfl rfl rfl rfl ?_
  refine ar_iload_n (j := 3) (q := 1269) rfl rfl rfl rfl ?_
  refine ar_iconst (v := 1) (q := 1270) rfl rfl rfl ?_
  refine ar_ib (i := .iadd) (z := nI s + 1) (q := 1271) rfl rfl rfl rfl rfl ?_
  refine ar_sld (v := xs (s + 1)) (q := 1272) rfl rfl (am_inE (nI_add s 1) (by omega) (by omega)) (am_clE (n := N) (nI_add s 1) (by omega) (by omega)) rfl ?_
  refine ar_invv (as := [.int (xs (s + 1))]) (rest := []) (b2 := (0, 0)) (b3 := b) (q := 1275) rfl rfl rfl rfl mk_0 rfl (lw_hg rfl rfl rfl) rfl rfl rfl ?_
  refine am_meth_mono 60 _ _ _ _ _ (fun v9 m9 h9 => ?_) (op_gone I L hR)
  obtain ⟨z, I1, L1, rfl, rfl, hm⟩ := h9
  show am_Run (some (N, xs)) (am_meth 60) 258 R 1275 [some (.float 0), some (.ref 0), some (.ref 113), some (.int (nI s))] [.int z] (am_mk I1 L1, b)
  refine ar_aload_n (j := 2) (q := 1276) rfl rfl rfl rfl ?_
  refine ar_aload_nx (j := 0) (q := 1277) rfl rfl rfl rfl ?_
  refine ar_iload_n (j := 3) (q := 1278) rfl rfl rfl rfl ?_
  refine ar_iconst (v := 1) (q := 1279) rfl rfl rfl ?_
  refine ar_ib (i := .iadd) (z := nI s + 1) (q := 1280) rfl rfl rfl rfl rfl ?_
  refine ar_sld (v := xs (s + 1)) (q := 1281) rfl rfl (am_inE (nI_add s 1) (by omega) (by omega)) (am_clE (n := N) (nI_add s 1) (by omega) (by omega)) rfl ?_
  refine ar_invv (as := [.int (xs (s + 1))]) (rest := [.int z]) (b2 := (0, 0)) (b3 := b) (q := 1284) rfl rfl rfl rfl mk_113 rfl (lw_hg rfl rfl rfl) rfl rfl rfl ?_
  refine am_meth_mono 60 _ _ _ _ _ (fun v9 m9 h9 => ?_) hm
  obtain ⟨z2, I2, L2, rfl, rfl, rfl, hR2⟩ := h9
  show am_Run (some (N, xs)) (am_meth 60) 258 R 1284 [some (.float 0), some (.ref 0), some (.ref 113), some (.int (nI s))] [.int z2, .int z2] (am_mk I2 L2, b)
  refine ar_br (t := 1335) (q := 1287) am_c_eq rfl rfl rfl (fun _ => ?_) (fun c => absurd rfl c)
  exact ih _ _ hR2
set_option maxRecDepth 20000 in
theorem lw_claim {N s : Nat} {xs : Nat → Int32} {b : Nat × Nat} {R : am_R} {I : am_V} {L : Nat → Nat → Int64} (h5 : s + 5 ≤ N) (hN : N ≤ 2560) (hR : RelE I) (ih : ∀ (I : am_V) (L : Nat → Nat → Int64), RelE I → am_Run (some (N, xs)) (am_meth 60) 258 R 1335 [some (.float 0), some (.ref 0), some (.ref 113), some (.int (nI s))] [] (am_mk I L, b)) : am_Run (some (N, xs)) (am_meth 60) 258 R 1289 [some (.float 0), some (.ref 0), some (.ref 113), some (.int (nI s))] [] (am_mk I L, b) := by
  refine ar_aload_n (j := 1) (q := 1290) rfl rfl rfl rfl ?_
  refine ar_aload_nx (j := 0) (q := 1291) rfl rfl rfl rfl ?_
  refine ar_iload_n (j := 3) (q := 1292) rfl rfl rfl rfl ?_
  refine ar_iconst (v := 1) (q := 1293) rfl rfl rfl ?_
  refine ar_ib (i := .iadd) (z := nI s + 1) (q := 1294) rfl rfl rfl rfl rfl ?_
  refine ar_sld (v := xs (s + 1)) (q := 1295) rfl rfl (am_inE (nI_add s 1) (by omega) (by omega)) (am_clE (n := N) (nI_add s 1) (by omega) (by omega)) rfl ?_
  refine ar_invv (as := [.int (xs (s + 1))]) (rest := []) (b2 := (0, 0)) (b3 := b) (q := 1298) rfl rfl rfl rfl mk_0 rfl (lw_hg rfl rfl rfl) rfl rfl rfl ?_
  refine am_meth_mono 60 _ _ _ _ _ (fun v9 m9 h9 => ?_) (op_claim I L hR)
  obtain ⟨z, I1, L1, rfl, rfl, hm⟩ := h9
  show am_Run (some (N, xs)) (am_meth 60) 258 R 1298 [some (.float 0), some (.ref 0), some (.ref 113), some (.int (nI s))] [.int z] (am_mk I1 L1, b)
  refine ar_aload_n (j := 2) (q := 1299) rfl rfl rfl rfl ?_
  refine ar_aload_nx (j := 0) (q := 1300) rfl rfl rfl rfl ?_
  refine ar_iload_n (j := 3) (q := 1301) rfl rfl rfl rfl ?_
  refine ar_iconst (v := 1) (q := 1302) rfl rfl rfl ?_
  refine ar_ib (i := .iadd) (z := nI s + 1) (q := 1303) rfl rfl rfl rfl rfl ?_
  refine ar_sld (v := xs (s + 1)) (q := 1304) rfl rfl (am_inE (nI_add s 1) (by omega) (by omega)) (am_clE (n := N) (nI_add s 1) (by omega) (by omega)) rfl ?_
  refine ar_invv (as := [.int (xs (s + 1))]) (rest := [.int z]) (b2 := (0, 0)) (b3 := b) (q := 1307) rfl rfl rfl rfl mk_113 rfl (lw_hg rfl rfl rfl) rfl rfl rfl ?_
  refine am_meth_mono 60 _ _ _ _ _ (fun v9 m9 h9 => ?_) hm
  obtain ⟨z2, I2, L2, rfl, rfl, rfl, hR2⟩ := h9
  show am_Run (some (N, xs)) (am_meth 60) 258 R 1307 [some (.float 0), some (.ref 0), some (.ref 113), some (.int (nI s))] [.int z2, .int z2] (am_mk I2 L2, b)
  refine ar_br (t := 1335) (q := 1310) am_c_eq rfl rfl rfl (fun _ => ?_) (fun c => absurd rfl c)
  exact ih _ _ hR2
set_option maxRecDepth 20000 in
theorem lw_count {N s : Nat} {xs : Nat → Int32} {b : Nat × Nat} {R : am_R} {I : am_V} {L : Nat → Nat → Int64} (h5 : s + 5 ≤ N) (hN : N ≤ 2560) (hR : RelE I) (ih : ∀ (I : am_V) (L : Nat → Nat → Int64), RelE I → am_Run (some (N, xs)) (am_meth 60) 258 R 1335 [some (.float 0), some (.ref 0), some (.ref 113), some (.int (nI s))] [] (am_mk I L, b)) : am_Run (some (N, xs)) (am_meth 60) 258 R 1312 [some (.float 0), some (.ref 0), some (.ref 113), some (.int (nI s))] [] (am_mk I L, b) := by
  refine ar_aload_n (j := 1) (q := 1313) rfl rfl rfl rfl ?_
  refine ar_aload_nx (j := 0) (q := 1314) rfl rfl rfl rfl ?_
  refine ar_iload_n (j := 3) (q := 1315) rfl rfl rfl rfl ?_
  refine ar_iconst (v := 1) (q := 1316) rfl rfl rfl ?_
  refine ar_ib (i := .iadd) (z := nI s + 1) (q := 1317) rfl rfl rfl rfl rfl ?_
  refine ar_sld (v := xs (s + 1)) (q := 1318) rfl rfl (am_inE (nI_add s 1) (by omega) (by omega)) (am_clE (n := N) (nI_add s 1) (by omega) (by omega)) rfl ?_
  refine ar_invv (as := [.int (xs (s + 1))]) (rest := []) (b2 := (0, 0)) (b3 := b) (q := 1321) rfl rfl rfl rfl mk_0 rfl (lw_hg rfl rfl rfl) rfl rfl rfl ?_
  refine am_meth_mono 60 _ _ _ _ _ (fun v9 m9 h9 => ?_) (op_count I L hR)
  obtain ⟨z, I1, L1, rfl, rfl, hm⟩ := h9
  show am_Run (some (N, xs)) (am_meth 60) 258 R 1321 [some (.float 0), some (.ref 0), some (.ref 113), some (.int (nI s))] [.int z] (am_mk I1 L1, b)
  refine ar_aload_n (j := 2) (q := 1322) rfl rfl rfl rfl ?_
  refine ar_aload_nx (j := 0) (q := 1323) rfl rfl rfl rfl ?_
  refine ar_iload_n (j := 3) (q := 1324) rfl rfl rfl rfl ?_
  refine ar_iconst (v := 1) (q := 1325) rfl rfl rfl ?_
  refine ar_ib (i := .iadd) (z := nI s + 1) (q := 1326) rfl rfl rfl rfl rfl ?_
  refine ar_sld (v := xs (s + 1)) (q := 1327) rfl rfl (am_inE (nI_add s 1) (by omega) (by omega)) (am_clE (n := N) (nI_add s 1) (by omega) (by omega)) rfl ?_
  refine ar_invv (as := [.int (xs (s + 1))]) (rest := [.int z]) (b2 := (0, 0)) (b3 := b) (q := 1330) rfl rfl rfl rfl mk_113 rfl (lw_hg rfl rfl rfl) rfl rfl rfl ?_
  refine am_meth_mono 60 _ _ _ _ _ (fun v9 m9 h9 => ?_) hm
  obtain ⟨z2, I2, L2, rfl, rfl, rfl, hR2⟩ := h9
  show am_Run (some (N, xs)) (am_meth 60) 258 R 1330 [some (.float 0), some (.ref 0), some (.ref 113), some (.int (nI s))] [.int z2, .int z2] (am_mk I2 L2, b)
  refine ar_br (t := 1335) (q := 1333) am_c_eq rfl rfl rfl (fun _ => ?_) (fun c => absurd rfl c)
  exact ih _ _ hR2
