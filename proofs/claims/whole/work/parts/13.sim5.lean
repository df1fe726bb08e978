theorem am_k_prim : Cond.static (am_y am_acp) ∈ lw_tbl ∧ Cond.native (am_y am_acp) ∈ lw_tbl := by decide +kernel
theorem am_k_prim2 : goodWord (.static (am_y am_acp)) = true ∧ goodWord (.native (am_y am_acp)) = true ∧ goodWord (.initialized "java/lang/System") = true ∧ Cond.initialized "java/lang/System" ∈ lw_tbl := by decide +kernel
theorem am_k_ny : am_y am_mth1.1 = Lib.Math.max.name ∧ am_y am_mth1.2.1 = Lib.Math.min.name ∧ am_y am_mth1.2.2.1 = Lib.MathLoose.max_long.x ∧ am_y am_mth1.2.2.2 = Lib.MathLoose.min_long.x := by decide +kernel
theorem am_k_nk : am_mth1.1 < am_nM ∧ am_mth1.2.1 < am_nM ∧ am_mth1.2.2.1 < am_nM ∧ am_mth1.2.2.2 < am_nM ∧ am_kd am_mth1.1 = 1 ∧ am_kd am_mth1.2.1 = 1 ∧ am_kd am_mth1.2.2.1 = 1 ∧ am_kd am_mth1.2.2.2 = 1 ∧ am_own am_mth1.1 = am_cmath ∧ am_own am_mth1.2.1 = am_cmath ∧ am_own am_mth1.2.2.1 = am_cmath ∧ am_own am_mth1.2.2.2 = am_cmath ∧ am_cn am_cmath = "java/lang/Math" ∧ ¬ am_acp < am_nM := by decide +kernel
theorem am_k_b0 : am_bc am_acp = 0 ∧ am_bs am_acp = 0 ∧ am_bc am_mth1.1 = 0 ∧ am_bs am_mth1.1 = 0 ∧ am_bc am_mth1.2.1 = 0 ∧ am_bs am_mth1.2.1 = 0 ∧ am_bc am_mth1.2.2.1 = 0 ∧ am_bs am_mth1.2.2.1 = 0 ∧ am_bc am_mth1.2.2.2 = 0 ∧ am_bs am_mth1.2.2.2 = 0 ∧ am_na am_acp = 5 ∧ am_na am_mth1.1 = 2 ∧ am_na am_mth1.2.1 = 2 ∧ am_na am_mth1.2.2.1 = 2 ∧ am_na am_mth1.2.2.2 = 2 := by decide +kernel
theorem am_k_cm : Cond.code Lib.Math.max.name Lib.Math.max.code 2 (some .int) = Cond.code (am_y am_mth1.1) (am_by am_mth1.1) (am_ml am_mth1.1) (am_rt am_mth1.1) := rfl
theorem am_k_cm2 : Cond.code Lib.Math.min.name Lib.Math.min.code 2 (some .int) = Cond.code (am_y am_mth1.2.1) (am_by am_mth1.2.1) (am_ml am_mth1.2.1) (am_rt am_mth1.2.1) := rfl
theorem am_k_cm3 : Cond.code Lib.MathLoose.max_long.x Lib.MathLoose.max_long.code 4 (some .long) = Cond.code (am_y am_mth1.2.2.1) (am_by am_mth1.2.2.1) (am_ml am_mth1.2.2.1) (am_rt am_mth1.2.2.1) := rfl
theorem am_k_cm4 : Cond.code Lib.MathLoose.min_long.x Lib.MathLoose.min_long.code 4 (some .long) = Cond.code (am_y am_mth1.2.2.2) (am_by am_mth1.2.2.2) (am_ml am_mth1.2.2.2) (am_rt am_mth1.2.2.2) := rfl
theorem am_rev2 {α : Type} {l : List α} {x y : α} {n : Nat} (h : (l.take n).reverse = [x, y]) : l.take n = [y, x] := by
  have := congrArg List.reverse h
  rw [List.reverse_reverse] at this
  exact this
theorem am_rev5 {α : Type} {l : List α} {a b c d e : α} {n : Nat} (h : (l.take n).reverse = [a, b, c, d, e]) : l.take n = [e, d, c, b, a] := by
  have := congrArg List.reverse h
  rw [List.reverse_reverse] at this
  exact this
theorem sm_invs {p : Program} {l : Launch} {e : Env} {Rm : Room} {s : State} {m : MethodId} {args : Array Value} {below : List Frame} {meth : Method} {c : Code} {Q : State → Prop} {D : va_G} {A : Nat → Prop} {ea : Nat → Nat} {nL : Nat} {adr0 : List Nat} {call : am_Fn} {R : am_R} {pc : Nat} {ls : am_L} {st : List Value} {mem : am_M} {H : Heap} {locs : List Loc} {cells slots : Nat} {jl : Array Slot} {js : List Value} {adr : List Nat} {ws : va_W} {k : Nat} {X : am_X} {base : Nat} {cc : ByteArray} {d idx : Nat} (F : am_Fx p s m args meth c Rm k X base ea A D) (hC : am_Calls l base ea D d call) (hcd : am_Codes) (hRm : d + 2 ≤ Rm.frames ∧ 60 * (d + 1) + 60 ≤ Rm.locals) (hnL : nL = am_ml k) (hb : c.code = cc) (hd : decode cc pc = .ok (.invokestatic idx, 3)) (h : am_do call (am_invs (am_own k) idx (pc + 3) ls st mem) (am_Sim p l e Rm s m args below meth c Q D A ea nL adr0) R) (hJ : am_J s D A ea nL Rm adr0 ls st mem H locs cells slots jl js adr ws)  : W p l e Rm s m args below meth c H locs cells slots Q (F0 m pc jl js) := by
  have hJ0 := hJ
  have F0x := F
  obtain ⟨h0, h1, h2, h3, h4, h5, h6, h7, h8⟩ := hJ
  obtain ⟨hx, -, hown, hts, hK, hA, hG, hbs, hex, hsx, hin2, hml, hoC, hf1, hl1⟩ := F
  unfold am_invs at h
  split at h
  · rename_i k2 hm
    obtain ⟨m1, m2⟩ := am_mth_ok hoC hm
    split at h
    rotate_left
    · exact h.elim
    rename_i hc
    simp only [Bool.and_eq_true, decide_eq_true_eq] at hc
    unfold am_cal at h
    split at h
    rotate_left
    · exact h.elim
    rename_i hc2
    simp only [Bool.and_eq_true, decide_eq_true_eq] at hc2
    rcases hC k2 _ _ _ m1 h with ⟨q1, h⟩ | ⟨q1, hM⟩
    · unfold am_prim at h
      split at h
      · rename_i hk
        subst hk
        split at h
        · rename_i a sp b dp n has
          have hq := h6.take (am_na am_acp)
          rw [am_rev5 has] at hq
          obtain ⟨w1, l1, e1, e2, w2, l2, e3, e4, w3, l3, e5, ⟨jb, e6, e6'⟩, w4, l4, e7, e8, w5, l5, e9, ⟨ja, e10, e10'⟩, e11⟩ := hq
          have e2 : w1 = .int n := e2
          have e4 : w2 = .int dp := e4
          have e8 : w4 = .int sp := e8
          have e11 : l5 = [] := e11
          subst e2; subst e4; subst e6'; subst e8; subst e10'; subst e11; subst e9; subst e7; subst e5; subst e3
          have hjs := List.take_append_drop (am_na am_acp) js
          rw [e1] at hjs
          have hL : Cond.methodLink (am_cn (am_own k)) idx (am_y am_acp) ∈ am_TB := by
            rcases m2 with q | q
            · exact q
            · exact absurd (hc.1.symm.trans q.2.1) (by decide)
          have hrest := h6.drop (am_na am_acp)
          rw [← hjs]
          simp only [List.cons_append, List.nil_append]
          unfold am_acopy at h
          split at h
          · rename_i n0 f n1 g ha hbb
            split at h
            · rename_i hcond
              simp only [Bool.and_eq_true, decide_eq_true_eq, Bool.not_eq_true', decide_eq_false_iff_not] at hcond
              obtain ⟨⟨⟨⟨⟨c0, c1⟩, c2⟩, c3⟩, c4⟩, c5⟩ := hcond
              obtain ⟨a', e', z1, z2, cA, z3, z4, z5⟩ := h1.2.2 a _ ha
              rw [e10] at z1
              cases z1
              subst z3
              obtain ⟨b', eb', y1, y2, cB, y3, y4, y5⟩ := h1.2.2 b _ hbb
              rw [e6] at y1
              cases y1
              subst y3
              have hK2 : va_K D classes [(cA, .int), (cB, .int)] s := (am_K1 hK z4 z5).app (am_K1 hK y4 y5)
              have st0 : Cond.static (am_y am_acp) ∈ am_TB := List.mem_filter.mpr ⟨am_k_prim.1, am_k_prim2.1⟩
              have nt0 : Cond.native (am_y am_acp) ∈ am_TB := List.mem_filter.mpr ⟨am_k_prim.2, am_k_prim2.2.1⟩
              have in0 : Cond.initialized "java/lang/System" ∈ am_TB := List.mem_filter.mpr ⟨am_k_prim2.2.2.2, am_k_prim2.2.2.1⟩
              have hnf : nativeFrameWords "java/lang/System" "arraycopy" 5 = 7 := by decide +kernel
              refine va_copyi hx hb (hml.trans (hnL.symm.trans h5.2.1.symm)) (own := am_cn (am_own k)) hown (hts _ hL) (hts _ nt0) (hts _ st0) (hts _ in0) hK2 h2 h3 h4 a b 0 1 z2 y2 rfl rfl rfl c1 c2 c3 c4 c5 (fun _ _ => rfl) hf1 (by rw [hrest.cat, hnf]; omega) hd (fun H1 locs1 p2 p3 p4 => ?_)
              exact h _ _ _ _ _ _ _ _ ⟨h0, h1.set y2 ⟨cB, rfl, y4, y5⟩, p2, p3, p4, h5, hrest, by show cells + (mem.2.1 - _) ≤ _; omega, by show slots + (mem.2.2 - _) ≤ _; omega⟩
            · exact h.elim
          · exact h.elim
        · exact h.elim
      split at h
      · rename_i hk
        subst hk
        split at h
        · rename_i x y has
          have hq := h6.take (am_na am_mth1.1)
          rw [am_rev2 has] at hq
          obtain ⟨w1, l1, e1, e2, w2, l2, e3, e4, e5⟩ := hq
          have e2 : w1 = .int y := e2
          have e4 : w2 = .int x := e4
          have e5 : l2 = [] := e5
          subst e2; subst e4; subst e5; subst e3
          have hjs := List.take_append_drop (am_na am_mth1.1) js
          rw [e1] at hjs
          have hL : Cond.methodLink (am_cn (am_own k)) idx (am_y am_mth1.1) ∈ am_TB := by
            rcases m2 with q | q
            · exact q
            · exact absurd (hc.1.symm.trans q.2.1) (by decide)
          have hnm := am_k_nk.1
          obtain ⟨y1, y2, y3, y4⟩ := am_mw hnm
          have hrest := h6.drop (am_na am_mth1.1)
          rw [← hjs]
          simp only [List.cons_append, List.nil_append]
          refine va_mmax hx hb (hml.trans (hnL.symm.trans h5.2.1.symm)) (own := am_cn (am_own k)) hown (by have := hts _ hL; rw [am_k_ny.1] at this; exact this) (by have := hts _ (y1 hc.1); rw [am_k_ny.1] at this; exact this) (by have := hts _ y4; rw [am_k_nk.2.2.2.2.2.2.2.2.1, am_k_nk.2.2.2.2.2.2.2.2.2.2.2.2.1] at this; exact this) (by rw [am_k_cm]; exact hts _ (hcd _ hnm)) hf1 (by rw [hrest.cat]; omega) (by omega) (by omega) hd ?_
          exact h _ _ _ _ _ _ _ _ ⟨h0, h1, h2, h3, h4, h5, ⟨_, _, rfl, rfl, hrest⟩, by show cells + (mem.2.1 - _) ≤ _; omega, by show slots + (mem.2.2 - _) ≤ _; omega⟩
        · exact h.elim
      split at h
      · rename_i hk
        subst hk
        split at h
        · rename_i x y has
          have hq := h6.take (am_na am_mth1.2.1)
          rw [am_rev2 has] at hq
          obtain ⟨w1, l1, e1, e2, w2, l2, e3, e4, e5⟩ := hq
          have e2 : w1 = .int y := e2
          have e4 : w2 = .int x := e4
          have e5 : l2 = [] := e5
          subst e2; subst e4; subst e5; subst e3
          have hjs := List.take_append_drop (am_na am_mth1.2.1) js
          rw [e1] at hjs
          have hL : Cond.methodLink (am_cn (am_own k)) idx (am_y am_mth1.2.1) ∈ am_TB := by
            rcases m2 with q | q
            · exact q
            · exact absurd (hc.1.symm.trans q.2.1) (by decide)
          have hnm := am_k_nk.2.1
          obtain ⟨y1, y2, y3, y4⟩ := am_mw hnm
          have hrest := h6.drop (am_na am_mth1.2.1)
          rw [← hjs]
          simp only [List.cons_append, List.nil_append]
          refine va_mmin hx hb (hml.trans (hnL.symm.trans h5.2.1.symm)) (own := am_cn (am_own k)) hown (by have := hts _ hL; rw [am_k_ny.2.1] at this; exact this) (by have := hts _ (y1 hc.1); rw [am_k_ny.2.1] at this; exact this) (by have := hts _ y4; rw [am_k_nk.2.2.2.2.2.2.2.2.2.1, am_k_nk.2.2.2.2.2.2.2.2.2.2.2.2.1] at this; exact this) (by rw [am_k_cm2]; exact hts _ (hcd _ hnm)) hf1 (by rw [hrest.cat]; omega) (by omega) (by omega) hd ?_
          exact h _ _ _ _ _ _ _ _ ⟨h0, h1, h2, h3, h4, h5, ⟨_, _, rfl, rfl, hrest⟩, by show cells + (mem.2.1 - _) ≤ _; omega, by show slots + (mem.2.2 - _) ≤ _; omega⟩
        · exact h.elim
      split at h
      · rename_i hk
        subst hk
        split at h
        · rename_i x y has
          have hq := h6.take (am_na am_mth1.2.2.1)
          rw [am_rev2 has] at hq
          obtain ⟨w1, l1, e1, e2, w2, l2, e3, e4, e5⟩ := hq
          have e2 : w1 = .long y := e2
          have e4 : w2 = .long x := e4
          have e5 : l2 = [] := e5
          subst e2; subst e4; subst e5; subst e3
          have hjs := List.take_append_drop (am_na am_mth1.2.2.1) js
          rw [e1] at hjs
          have hL : Cond.methodLink (am_cn (am_own k)) idx (am_y am_mth1.2.2.1) ∈ am_TB := by
            rcases m2 with q | q
            · exact q
            · exact absurd (hc.1.symm.trans q.2.1) (by decide)
          have hnm := am_k_nk.2.2.1
          obtain ⟨y1, y2, y3, y4⟩ := am_mw hnm
          have hrest := h6.drop (am_na am_mth1.2.2.1)
          rw [← hjs]
          simp only [List.cons_append, List.nil_append]
          refine va_mmax_long hx hb (hml.trans (hnL.symm.trans h5.2.1.symm)) (own := am_cn (am_own k)) hown (by have := hts _ hL; rw [am_k_ny.2.2.1] at this; exact this) (by have := hts _ (y1 hc.1); rw [am_k_ny.2.2.1] at this; exact this) (by have := hts _ y4; rw [am_k_nk.2.2.2.2.2.2.2.2.2.2.1, am_k_nk.2.2.2.2.2.2.2.2.2.2.2.2.1] at this; exact this) (by rw [am_k_cm3]; exact hts _ (hcd _ hnm)) hf1 (by rw [hrest.cat]; omega) (by omega) (by omega) hd ?_
          exact h _ _ _ _ _ _ _ _ ⟨h0, h1, h2, h3, h4, h5, ⟨_, _, rfl, rfl, hrest⟩, by show cells + (mem.2.1 - _) ≤ _; omega, by show slots + (mem.2.2 - _) ≤ _; omega⟩
        · exact h.elim
      split at h
      · rename_i hk
        subst hk
        split at h
        · rename_i x y has
          have hq := h6.take (am_na am_mth1.2.2.2)
          rw [am_rev2 has] at hq
          obtain ⟨w1, l1, e1, e2, w2, l2, e3, e4, e5⟩ := hq
          have e2 : w1 = .long y := e2
          have e4 : w2 = .long x := e4
          have e5 : l2 = [] := e5
          subst e2; subst e4; subst e5; subst e3
          have hjs := List.take_append_drop (am_na am_mth1.2.2.2) js
          rw [e1] at hjs
          have hL : Cond.methodLink (am_cn (am_own k)) idx (am_y am_mth1.2.2.2) ∈ am_TB := by
            rcases m2 with q | q
            · exact q
            · exact absurd (hc.1.symm.trans q.2.1) (by decide)
          have hnm := am_k_nk.2.2.2.1
          obtain ⟨y1, y2, y3, y4⟩ := am_mw hnm
          have hrest := h6.drop (am_na am_mth1.2.2.2)
          rw [← hjs]
          simp only [List.cons_append, List.nil_append]
          refine va_mmin_long hx hb (hml.trans (hnL.symm.trans h5.2.1.symm)) (own := am_cn (am_own k)) hown (by have := hts _ hL; rw [am_k_ny.2.2.2] at this; exact this) (by have := hts _ (y1 hc.1); rw [am_k_ny.2.2.2] at this; exact this) (by have := hts _ y4; rw [am_k_nk.2.2.2.2.2.2.2.2.2.2.2.1, am_k_nk.2.2.2.2.2.2.2.2.2.2.2.2.1] at this; exact this) (by rw [am_k_cm4]; exact hts _ (hcd _ hnm)) hf1 (by rw [hrest.cat]; omega) (by omega) (by omega) hd ?_
          exact h _ _ _ _ _ _ _ _ ⟨h0, h1, h2, h3, h4, h5, ⟨_, _, rfl, rfl, hrest⟩, by show cells + (mem.2.1 - _) ≤ _; omega, by show slots + (mem.2.2 - _) ≤ _; omega⟩
        · exact h.elim
      · exact h.elim
    · have hnm : k2 < am_nM := by
        rcases m1 with q | q
        · exact q
        · rw [q] at q1; exact absurd q1 (by simp [am_isp])
      have hml2 : Cond.methodLink (am_cn (am_own k)) idx (am_y k2) ∈ am_TB := by
        rcases m2 with q | q
        · exact q
        · exact absurd (hc.1.symm.trans q.2.1) (by decide)
      obtain ⟨y1, y2, y3, y4⟩ := am_mw hnm
      obtain ⟨x1, x2, x3, x4, x5, x6⟩ := am_mn hnm
      have hjs : js = (js.take (am_na k2)).reverse.reverse ++ js.drop (am_na k2) := by
        rw [List.reverse_reverse, List.take_append_drop]
      have hlen : (js.take (am_na k2)).reverse.length = am_na k2 := by
        rw [List.length_reverse, List.length_take, h6.len]
        omega
      have hrest := h6.drop (am_na k2)
      have hMM := hM adr (js.take (am_na k2)).reverse H.size ((h6.take (am_na k2)).rev)
      refine am_after F0x hJ0 hrest (va_runS (As := (js.take (am_na k2)).reverse) (rest := js.drop (am_na k2)) ⟨hx, hb, hml, hown, hts⟩ hMM (va_cwS (am_na k2) (ws' := am_TB) hts (am_good (fun w hw => ?_)) rfl rfl rfl x2 ⟨hRm.1, ?_⟩) ⟨am_blind, am_pre (mem := mem) F0x hJ0⟩ rfl hlen (by rw [← hnL]; exact h5.2.1) hjs (lv_room (by rw [hrest.cat]; exact hc2.1.1)) hd ⟨by omega, by omega⟩) hc2.1.2 hc2.2 (fun v m2 hv => hv)
      · simp only [va_wsS, List.cons_append, List.nil_append, List.mem_cons] at hw
        rcases hw with rfl | rfl | rfl | hw
        · exact hml2
        · exact y1 hc.1
        · exact y4
        · rcases List.mem_cons.mp hw with rfl | hw
          · exact hcd k2 hnm
          · exact hw
      · show 8 + (am_ml k2 + 11) + 60 * (d + 1) ≤ Rm.locals
        have := am_ml_le hnm
        omega
  · exact h.elim
theorem sm_invi {p : Program} {l : Launch} {e : Env} {Rm : Room} {s : State} {m : MethodId} {args : Array Value} {below : List Frame} {meth : Method} {c : Code} {Q : State → Prop} {D : va_G} {A : Nat → Prop} {ea : Nat → Nat} {nL : Nat} {adr0 : List Nat} {call : am_Fn} {R : am_R} {pc : Nat} {ls : am_L} {st : List Value} {mem : am_M} {H : Heap} {locs : List Loc} {cells slots : Nat} {jl : Array Slot} {js : List Value} {adr : List Nat} {ws : va_W} {k : Nat} {X : am_X} {base : Nat} {cc : ByteArray} {d idx : Nat} (F : am_Fx p s m args meth c Rm k X base ea A D) (hC : am_Calls l base ea D d call) (hcd : am_Codes) (hRm : d + 2 ≤ Rm.frames ∧ 60 * (d + 1) + 60 ≤ Rm.locals) (hnL : nL = am_ml k) (hb : c.code = cc) (hd : decode cc pc = .ok (.invokespecial idx, 3)) (h : am_do call (am_invi (am_own k) idx (pc + 3) ls st mem) (am_Sim p l e Rm s m args below meth c Q D A ea nL adr0) R) (hJ : am_J s D A ea nL Rm adr0 ls st mem H locs cells slots jl js adr ws)  : W p l e Rm s m args below meth c H locs cells slots Q (F0 m pc jl js) := by
  have hJ0 := hJ
  have F0x := F
  obtain ⟨h0, h1, h2, h3, h4, h5, h6, h7, h8⟩ := hJ
  obtain ⟨hx, -, hown, hts, hK, hA, hG, hbs, hex, hsx, hin2, hml, hoC, hf1, hl1⟩ := F
  unfold am_invi at h
  split at h
  · rename_i hc0
    simp only [Bool.and_eq_true, decide_eq_true_eq] at hc0
    split at h
    · rename_i b st2
      obtain ⟨w2, l2, e3, ⟨ad, e4, e6⟩, e5⟩ := h6
      subst e6; subst e3
      split at h
      · rename_i hcat
        have hoi := am_k_oj
        simp only [Bool.and_eq_true] at hoi
        have hl9 : Cond.methodLink (am_cn (am_own k)) idx objectInit ∈ am_TB := by
          rw [hc0.1]
          exact am_ok_mem (List.all_eq_true.mp am_k_oi _ (List.mem_range.mpr hc0.2))
        refine W.objInit hx hb hown (hts _ hl9) (hts _ (am_ok_mem hoi.1)) (hts _ (am_ok_mem hoi.2)) rfl (h5.2.1.trans (hnL.trans hml.symm)) rfl hd hf1 (by have := lv_room (m := m) (pc := pc) (ls := jl) (rest := .ref ad :: l2) (st := l2) (by rw [e5.cat]; exact hcat); omega) ?_
        exact h _ _ _ _ _ _ _ _ ⟨h0, h1, h2, h3, h4, h5, e5, h7, h8⟩
      · exact h.elim
    · exact h.elim
  · split at h
    · rename_i k2 hm
      obtain ⟨m1, m2⟩ := am_mth_ok hoC hm
      have hsd := h6.drop (am_na k2)
      have hst := (h6.take (am_na k2)).rev
      split at h
      · rename_i b rest hdrop
        rw [hdrop] at hsd
        obtain ⟨w2, jrest, e3, ⟨ad, e4, e6⟩, e5⟩ := hsd
        subst e6
        split at h
        · rename_i hc
          unfold am_cal at h
          split at h
          · rename_i hc2
            simp only [Bool.and_eq_true, decide_eq_true_eq] at hc2
            have hnm : k2 < am_nM := by
              rcases m1 with q | q
              · exact q
              · rw [q] at hc; exact absurd (am_k_acp.symm.trans hc) (by decide)
            rcases hC k2 _ _ _ m1 h with ⟨q1, -⟩ | ⟨q1, hM⟩
            · exact absurd (hc.symm.trans (am_isp_kd m1 q1)) (by decide)
            obtain ⟨y1, y2, y3, y4⟩ := am_mw hnm
            obtain ⟨x1, x2, x3, x4, x5, x6⟩ := am_mn hnm
            have hjs : js = (js.take (am_na k2)).reverse.reverse ++ .ref ad :: jrest := by
              rw [List.reverse_reverse, ← e3, List.take_append_drop]
            have hlen : (js.take (am_na k2)).reverse.length = am_na k2 := by
              rw [List.length_reverse, List.length_take]
              have : (js.drop (am_na k2)).length = jrest.length + 1 := by rw [e3]; rfl
              rw [List.length_drop] at this
              omega
            have hMM := hM adr (.ref ad :: (js.take (am_na k2)).reverse) H.size ⟨_, _, rfl, ⟨ad, e4, rfl⟩, hst⟩
            have hgd : GoodIn am_TB (am_wsM k2) := am_good (fun w hw => by
              rcases List.mem_cons.mp hw with rfl | hw
              · exact hcd k2 hnm
              · exact hw)
            have hRR : (am_rm d k2).frames + 1 ≤ Rm.frames ∧ 8 + (am_ml k2 + 11) + (am_rm d k2).locals ≤ Rm.locals := ⟨hRm.1, by
              show 8 + (am_ml k2 + 11) + 60 * (d + 1) ≤ Rm.locals
              have := am_ml_le hnm
              omega⟩
            have hwsM : am_wsM k2 = Cond.code (am_y k2) (am_by k2) (am_ml k2) none :: am_TB := by rw [← x5 hc]; rfl
            rcases m2 with hml2 | ⟨ho0, -, hns⟩
            · exact am_after F0x hJ0 e5 (va_runI (As := (js.take (am_na k2)).reverse) (rest := jrest) (b := ad) ⟨hx, hb, hml, hown, hts⟩ hMM (cwI (am_na k2) (ws' := am_TB) hts hgd hwsM rfl rfl (hts _ y4) (hts _ hml2) (hts _ (y2 (by rw [hc]; decide))) (x3.mp hc) x2 hRR) ⟨am_blind, am_pre (mem := mem) F0x hJ0⟩ rfl hlen (by rw [← hnL]; exact h5.2.1) hjs (lv_room (by rw [e5.cat]; exact hc2.1.1)) hd ⟨by omega, by omega⟩) hc2.1.2 hc2.2 (fun v m2 hv => hv)
            · have hnl := hex.2.2.2.2.2.2.1 _ hns
              have hown0 : s.vm.findClass "HouseKeepers" = some m.cls := by rw [ho0] at hown; exact hown
              exact am_after F0x hJ0 e5 (va_runIN (As := (js.take (am_na k2)).reverse) (rest := jrest) (b := ad) ⟨hx, hb, hml, hown0, hts⟩ hMM ⟨va_cnB (am_na k2) (ws' := am_TB) hts hgd hwsM rfl rfl hnl (hts _ y4) x2 hRR, x3.mp hc, hts _ (y2 (by rw [hc]; decide))⟩ ⟨am_blind, am_pre (mem := mem) F0x hJ0⟩ rfl hlen (by rw [← hnL]; exact h5.2.1) hjs (lv_room (by rw [e5.cat]; exact hc2.1.1)) hd ⟨by omega, by omega⟩) hc2.1.2 hc2.2 (fun v m2 hv => hv)
          · exact h.elim
        · exact h.elim
      · exact h.elim
    · exact h.elim
