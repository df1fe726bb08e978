/-! ROWS OF THE PLAIN MACHINE: an instruction a row -/
section AR
variable {X : am_X} {d k : Nat} {R : am_R} {pc q : Nat} {ls ls' : am_L} {st : List Value} {hp : List am_C} {b : Nat × Nat} {mem : am_M}
theorem ar_go {i : Instr} {n : Nat} {c : am_S} (hc : am_code k pc = some (i, n)) (hn : n = am_len i n) (ho : am_step X k (am_own k) i pc ls st mem = some (.inl c)) (h : am_Run X (am_meth d) k R c.1 c.2.1 c.2.2.1 c.2.2.2) : am_Run X (am_meth d) k R pc ls st mem := by
  refine am_Run.step (am_meth_mono d) ?_
  unfold am_at
  rw [hc]
  dsimp only
  rw [if_pos hn, ho]
  exact h
theorem ar_rt {i : Instr} {n : Nat} {v : Option Value × am_M} (hc : am_code k pc = some (i, n)) (hn : n = am_len i n) (ho : am_step X k (am_own k) i pc ls st mem = some (.inr (.inl v))) (h : R v.1 v.2) : am_Run X (am_meth d) k R pc ls st mem := by
  refine am_Run.step (am_meth_mono d) ?_
  unfold am_at
  rw [hc]
  dsimp only
  rw [if_pos hn, ho]
  exact h
theorem ar_cl {i : Instr} {n : Nat} {v : am_Q} (hc : am_code k pc = some (i, n)) (hn : n = am_len i n) (ho : am_step X k (am_own k) i pc ls st mem = some (.inr (.inr v))) (h : am_meth d v.1 v.2.1 v.2.2.1 (fun u m => am_Run X (am_meth d) k R v.2.2.2.1 v.2.2.2.2.1 (u.toList ++ v.2.2.2.2.2.1) (m.1, v.2.2.2.2.2.2))) : am_Run X (am_meth d) k R pc ls st mem := by
  refine am_Run.step (am_meth_mono d) ?_
  unfold am_at
  rw [hc]
  dsimp only
  rw [if_pos hn, ho]
  exact h
theorem ar_iconst {n : Int} {v : Int32} (hc : am_code k pc = some (.iconst n, 1)) (hv : Int32.ofInt n = v) (hq : pc + 1 = q) (h : am_Run X (am_meth d) k R q ls (.int v :: st) mem) : am_Run X (am_meth d) k R pc ls st mem := by
  subst hv; subst hq; exact ar_go hc rfl rfl h
theorem ar_bipush {n : Int} {v : Int32} (hc : am_code k pc = some (.bipush n, 2)) (hv : (Int8.ofInt n).toInt32 = v) (hq : pc + 2 = q) (h : am_Run X (am_meth d) k R q ls (.int v :: st) mem) : am_Run X (am_meth d) k R pc ls st mem := by
  subst hv; subst hq; exact ar_go hc rfl rfl h
theorem ar_sipush {n : Int} {v : Int32} (hc : am_code k pc = some (.sipush n, 3)) (hv : (Int16.ofInt n).toInt32 = v) (hq : pc + 3 = q) (h : am_Run X (am_meth d) k R q ls (.int v :: st) mem) : am_Run X (am_meth d) k R pc ls st mem := by
  subst hv; subst hq; exact ar_go hc rfl rfl h
theorem ar_lconst {n : Fin 2} {v : Int64} (hc : am_code k pc = some (.lconst n, 1)) (hv : Int64.ofNat n.val = v) (hq : pc + 1 = q) (h : am_Run X (am_meth d) k R q ls (.long v :: st) mem) : am_Run X (am_meth d) k R pc ls st mem := by
  subst hv; subst hq; exact ar_go hc rfl rfl h
theorem ar_ldc {j : Nat} {v : Int32} (hc : am_code k pc = some (.ldc j, 2)) (hv : am_ci (am_own k) j = some v) (hq : pc + 2 = q) (h : am_Run X (am_meth d) k R q ls (.int v :: st) mem) : am_Run X (am_meth d) k R pc ls st mem := by
  subst hq
  refine ar_go (c := (pc + 2, ls, .int v :: st, mem)) hc rfl ?_ h
  simp only [am_step, am_ib, am_lb, am_misc, hv]; rfl
theorem ar_ldcs {j : Nat} (hc : am_code k pc = some (.ldc j, 2)) (hv : am_ci (am_own k) j = none) (hs : ((am_srs.getD (am_own k) []).lookup j).isSome = true) (hq : pc + 2 = q) (h : am_Run X (am_meth d) k R q ls (.float 2 :: st) mem) : am_Run X (am_meth d) k R pc ls st mem := by
  subst hq
  refine ar_go (c := (pc + 2, ls, .float 2 :: st, mem)) hc rfl ?_ h
  simp only [am_step, am_ib, am_lb, am_misc, hv]
  rw [if_pos hs]; rfl
theorem ar_ldcw {j : Nat} {v : Int32} (hc : am_code k pc = some (.ldc_w j, 3)) (hv : am_ci (am_own k) j = some v) (hq : pc + 3 = q) (h : am_Run X (am_meth d) k R q ls (.int v :: st) mem) : am_Run X (am_meth d) k R pc ls st mem := by
  subst hq
  refine ar_go (c := (pc + 3, ls, .int v :: st, mem)) hc rfl ?_ h
  simp only [am_step, am_ib, am_lb, am_misc, hv]; rfl
theorem ar_ldc2 {j : Nat} {v : Int64} (hc : am_code k pc = some (.ldc2_w j, 3)) (hv : am_cj (am_own k) j = some v) (hq : pc + 3 = q) (h : am_Run X (am_meth d) k R q ls (.long v :: st) mem) : am_Run X (am_meth d) k R pc ls st mem := by
  subst hq
  refine ar_go (c := (pc + 3, ls, .long v :: st, mem)) hc rfl ?_ h
  simp only [am_step, am_ib, am_lb, am_misc, hv]; rfl
theorem ar_gets {j : Nat} {v : Value} (hc : am_code k pc = some (.getstatic j, 3)) (hv : am_sta (am_own k) j = some v) (hq : pc + 3 = q) (h : am_Run X (am_meth d) k R q ls (v :: st) mem) : am_Run X (am_meth d) k R pc ls st mem := by
  subst hq
  refine ar_go (c := (pc + 3, ls, v :: st, mem)) hc rfl ?_ h
  simp only [am_step, am_ib, am_lb, am_misc, hv]; rfl
theorem ar_ild {i : Instr} {n j : Nat} {x : Int32} (hc : am_code k pc = some (i, n)) (hi : (i = .iload j ∧ n = 2) ∨ (n = 1 ∧ ∃ f : Fin 4, f.val = j ∧ i = .iload_n f)) (hl : am_get ls j = some (.int x)) (hq : pc + n = q) (h : am_Run X (am_meth d) k R q ls (.int x :: st) mem) : am_Run X (am_meth d) k R pc ls st mem := by
  subst hq
  rcases hi with ⟨rfl, rfl⟩ | ⟨rfl, f, rfl, rfl⟩
  · refine ar_go (c := (pc + 2, ls, .int x :: st, mem)) hc rfl ?_ h
    simp only [am_step, am_ib, am_lb, am_misc, am_ild, hl]; rfl
  · refine ar_go (c := (pc + 1, ls, .int x :: st, mem)) hc rfl ?_ h
    simp only [am_step, am_ib, am_lb, am_misc, am_ild, hl]; rfl
theorem ar_iload_n {f : Fin 4} {j : Nat} {x : Int32} (hc : am_code k pc = some (.iload_n f, 1)) (hf : f.val = j) (hl : am_get ls j = some (.int x)) (hq : pc + 1 = q) (h : am_Run X (am_meth d) k R q ls (.int x :: st) mem) : am_Run X (am_meth d) k R pc ls st mem := ar_ild hc (Or.inr ⟨rfl, f, hf, rfl⟩) hl hq h
theorem ar_iload {j : Nat} {x : Int32} (hc : am_code k pc = some (.iload j, 2)) (hl : am_get ls j = some (.int x)) (hq : pc + 2 = q) (h : am_Run X (am_meth d) k R q ls (.int x :: st) mem) : am_Run X (am_meth d) k R pc ls st mem := ar_ild hc (Or.inl ⟨rfl, rfl⟩) hl hq h
theorem ar_lload_n {f : Fin 4} {j : Nat} {x : Int64} (hc : am_code k pc = some (.lload_n f, 1)) (hf : f.val = j) (hl : am_get ls j = some (.long x)) (hq : pc + 1 = q) (h : am_Run X (am_meth d) k R q ls (.long x :: st) mem) : am_Run X (am_meth d) k R pc ls st mem := by
  subst hq; subst hf
  refine ar_go (c := (pc + 1, ls, .long x :: st, mem)) hc rfl ?_ h
  simp only [am_step, am_ib, am_lb, am_misc, am_lld, hl]; rfl
theorem ar_lload {j : Nat} {x : Int64} (hc : am_code k pc = some (.lload j, 2)) (hl : am_get ls j = some (.long x)) (hq : pc + 2 = q) (h : am_Run X (am_meth d) k R q ls (.long x :: st) mem) : am_Run X (am_meth d) k R pc ls st mem := by
  subst hq
  refine ar_go (c := (pc + 2, ls, .long x :: st, mem)) hc rfl ?_ h
  simp only [am_step, am_ib, am_lb, am_misc, am_lld, hl]; rfl
theorem ar_aload_n {f : Fin 4} {j a : Nat} (hc : am_code k pc = some (.aload_n f, 1)) (hf : f.val = j) (hl : am_get ls j = some (.ref a)) (hq : pc + 1 = q) (h : am_Run X (am_meth d) k R q ls (.ref a :: st) mem) : am_Run X (am_meth d) k R pc ls st mem := by
  subst hq; subst hf
  refine ar_go (c := (pc + 1, ls, .ref a :: st, mem)) hc rfl ?_ h
  simp only [am_step, am_ib, am_lb, am_misc, am_ald, hl]; rfl
theorem ar_aload {j a : Nat} (hc : am_code k pc = some (.aload j, 2)) (hl : am_get ls j = some (.ref a)) (hq : pc + 2 = q) (h : am_Run X (am_meth d) k R q ls (.ref a :: st) mem) : am_Run X (am_meth d) k R pc ls st mem := by
  subst hq
  refine ar_go (c := (pc + 2, ls, .ref a :: st, mem)) hc rfl ?_ h
  simp only [am_step, am_ib, am_lb, am_misc, am_ald, hl]; rfl
theorem ar_aload_nx {f : Fin 4} {j : Nat} {u : UInt32} (hc : am_code k pc = some (.aload_n f, 1)) (hf : f.val = j) (hl : am_get ls j = some (.float u)) (hq : pc + 1 = q) (h : am_Run X (am_meth d) k R q ls (.float u :: st) mem) : am_Run X (am_meth d) k R pc ls st mem := by
  subst hq; subst hf
  refine ar_go (c := (pc + 1, ls, .float u :: st, mem)) hc rfl ?_ h
  simp only [am_step, am_ib, am_lb, am_misc, am_ald, hl]; rfl
theorem ar_istore_n {f : Fin 4} {j : Nat} {x : Int32} (hc : am_code k pc = some (.istore_n f, 1)) (hf : f.val = j) (hg : (decide (j < ls.length) && am_pl ls j) = true) (hs : ls.set j (some (.int x)) = ls') (hq : pc + 1 = q) (h : am_Run X (am_meth d) k R q ls' st mem) : am_Run X (am_meth d) k R pc ls (.int x :: st) mem := by
  subst hq; subst hf; subst hs
  refine ar_go (c := (pc + 1, _, st, mem)) hc rfl ?_ h
  simp only [am_step, am_ib, am_lb, am_misc, am_ist]
  rw [if_pos hg]; rfl
theorem ar_istore {j : Nat} {x : Int32} (hc : am_code k pc = some (.istore j, 2)) (hg : (decide (j < ls.length) && am_pl ls j) = true) (hs : ls.set j (some (.int x)) = ls') (hq : pc + 2 = q) (h : am_Run X (am_meth d) k R q ls' st mem) : am_Run X (am_meth d) k R pc ls (.int x :: st) mem := by
  subst hq; subst hs
  refine ar_go (c := (pc + 2, _, st, mem)) hc rfl ?_ h
  simp only [am_step, am_ib, am_lb, am_misc, am_ist]
  rw [if_pos hg]; rfl
theorem ar_lstore_n {f : Fin 4} {j : Nat} {x : Int64} (hc : am_code k pc = some (.lstore_n f, 1)) (hf : f.val = j) (hg : (decide (j + 1 < ls.length) && am_pl ls j) = true) (hs : (ls.set j (some (.long x))).set (j + 1) none = ls') (hq : pc + 1 = q) (h : am_Run X (am_meth d) k R q ls' st mem) : am_Run X (am_meth d) k R pc ls (.long x :: st) mem := by
  subst hq; subst hf; subst hs
  refine ar_go (c := (pc + 1, _, st, mem)) hc rfl ?_ h
  simp only [am_step, am_ib, am_lb, am_misc, am_lst]
  rw [if_pos hg]; rfl
theorem ar_lstore {j : Nat} {x : Int64} (hc : am_code k pc = some (.lstore j, 2)) (hg : (decide (j + 1 < ls.length) && am_pl ls j) = true) (hs : (ls.set j (some (.long x))).set (j + 1) none = ls') (hq : pc + 2 = q) (h : am_Run X (am_meth d) k R q ls' st mem) : am_Run X (am_meth d) k R pc ls (.long x :: st) mem := by
  subst hq; subst hs
  refine ar_go (c := (pc + 2, _, st, mem)) hc rfl ?_ h
  simp only [am_step, am_ib, am_lb, am_misc, am_lst]
  rw [if_pos hg]; rfl
theorem ar_astore_n {f : Fin 4} {j a : Nat} (hc : am_code k pc = some (.astore_n f, 1)) (hf : f.val = j) (hg : (decide (j < ls.length) && am_pl ls j) = true) (hs : ls.set j (some (.ref a)) = ls') (hq : pc + 1 = q) (h : am_Run X (am_meth d) k R q ls' st mem) : am_Run X (am_meth d) k R pc ls (.ref a :: st) mem := by
  subst hq; subst hf; subst hs
  refine ar_go (c := (pc + 1, _, st, mem)) hc rfl ?_ h
  simp only [am_step, am_ib, am_lb, am_misc, am_ast]
  rw [if_pos hg]; rfl
theorem ar_astore {j a : Nat} (hc : am_code k pc = some (.astore j, 2)) (hg : (decide (j < ls.length) && am_pl ls j) = true) (hs : ls.set j (some (.ref a)) = ls') (hq : pc + 2 = q) (h : am_Run X (am_meth d) k R q ls' st mem) : am_Run X (am_meth d) k R pc ls (.ref a :: st) mem := by
  subst hq; subst hs
  refine ar_go (c := (pc + 2, _, st, mem)) hc rfl ?_ h
  simp only [am_step, am_ib, am_lb, am_misc, am_ast]
  rw [if_pos hg]; rfl
theorem ar_iinc {j : Nat} {n : Int} {x v : Int32} (hc : am_code k pc = some (.iinc j n, 3)) (hl : am_get ls j = some (.int x)) (hg : (decide (j < ls.length) && am_pl ls j) = true) (hv : x + Int32.ofInt n = v) (hs : ls.set j (some (.int v)) = ls') (hq : pc + 3 = q) (h : am_Run X (am_meth d) k R q ls' st mem) : am_Run X (am_meth d) k R pc ls st mem := by
  subst hq; subst hs; subst hv
  refine ar_go (c := (pc + 3, _, st, mem)) hc rfl ?_ h
  simp only [am_step, am_ib, am_lb, am_misc, am_iic, hl]
  rw [if_pos hg]; rfl
theorem ar_ib {i : Instr} {f : Int32 → Int32 → Option Int32} {x y z : Int32} (hc : am_code k pc = some (i, 1)) (hn : 1 = am_len i 1) (hf : am_ib i = some f) (hz : f x y = some z) (hq : pc + 1 = q) (h : am_Run X (am_meth d) k R q ls (.int z :: st) mem) : am_Run X (am_meth d) k R pc ls (.int y :: .int x :: st) mem := by
  subst hq
  refine ar_go (c := (pc + 1, ls, .int z :: st, mem)) hc hn ?_ h
  simp only [am_step, hf, am_ibs, hz]; rfl
theorem ar_lb {i : Instr} {f : Int64 → Int64 → Option Int64} {x y z : Int64} (hc : am_code k pc = some (i, 1)) (hn : 1 = am_len i 1) (hi : am_ib i = none) (hf : am_lb i = some f) (hz : f x y = some z) (hq : pc + 1 = q) (h : am_Run X (am_meth d) k R q ls (.long z :: st) mem) : am_Run X (am_meth d) k R pc ls (.long y :: .long x :: st) mem := by
  subst hq
  refine ar_go (c := (pc + 1, ls, .long z :: st, mem)) hc hn ?_ h
  simp only [am_step, hi, hf, am_lbs, hz]; rfl
theorem ar_idiv {x y : Int32} (hc : am_code k pc = some (.idiv, 1)) (hy : ¬ y = 0) (hq : pc + 1 = q) (h : am_Run X (am_meth d) k R q ls (.int (x / y) :: st) mem) : am_Run X (am_meth d) k R pc ls (.int y :: .int x :: st) mem := ar_ib (i := .idiv) hc rfl rfl (if_neg hy) hq h
theorem ar_irem {x y : Int32} (hc : am_code k pc = some (.irem, 1)) (hy : ¬ y = 0) (hq : pc + 1 = q) (h : am_Run X (am_meth d) k R q ls (.int (x - x / y * y) :: st) mem) : am_Run X (am_meth d) k R pc ls (.int y :: .int x :: st) mem := ar_ib (i := .irem) hc rfl rfl (if_neg hy) hq h
theorem ar_ldiv {x y : Int64} (hc : am_code k pc = some (.ldiv, 1)) (hy : ¬ y = 0) (hq : pc + 1 = q) (h : am_Run X (am_meth d) k R q ls (.long (x / y) :: st) mem) : am_Run X (am_meth d) k R pc ls (.long y :: .long x :: st) mem := ar_lb (i := .ldiv) hc rfl rfl rfl (if_neg hy) hq h
theorem ar_lrem {x y : Int64} (hc : am_code k pc = some (.lrem, 1)) (hy : ¬ y = 0) (hq : pc + 1 = q) (h : am_Run X (am_meth d) k R q ls (.long (x - x / y * y) :: st) mem) : am_Run X (am_meth d) k R pc ls (.long y :: .long x :: st) mem := ar_lb (i := .lrem) hc rfl rfl rfl (if_neg hy) hq h
/-- one step that a program can compute: conversions, negation, shifts of longs, lcmp, dup and its like, loads of the script -/
theorem ar_st {i : Instr} {n : Nat} {st' : List Value} (hc : am_code k pc = some (i, n)) (hn : n = am_len i n) (ho : am_step X k (am_own k) i pc ls st mem = some (.inl (pc + n, ls, st', mem))) (hq : pc + n = q) (h : am_Run X (am_meth d) k R q ls st' mem) : am_Run X (am_meth d) k R pc ls st mem := by
  subst hq
  exact ar_go hc hn ho h
theorem ar_goto {off : Int} {t : Nat} (hc : am_code k pc = some (.goto off, 3)) (ht : am_jmp pc off = some t) (h : am_Run X (am_meth d) k R t ls st mem) : am_Run X (am_meth d) k R pc ls st mem := by
  refine ar_go (c := (t, ls, st, mem)) hc rfl ?_ h
  simp only [am_step, am_ib, am_lb, am_misc, am_to, ht]; rfl
theorem ar_icmp {c : Jvm.ClassFile.Cond} {off : Int} {t : Nat} {x y : Int32} (hc : am_code k pc = some (.if_icmp c off, 3)) (ht : am_jmp pc off = some t) (hq : pc + 3 = q) (h1 : am_cmp c x y = true → am_Run X (am_meth d) k R t ls st mem) (h2 : ¬ am_cmp c x y = true → am_Run X (am_meth d) k R q ls st mem) : am_Run X (am_meth d) k R pc ls (.int y :: .int x :: st) mem := by
  subst hq
  by_cases hcc : am_cmp c x y = true
  · refine ar_go (c := (t, ls, st, mem)) hc rfl ?_ (h1 hcc)
    simp only [am_step, am_ib, am_lb, am_misc]
    rw [if_pos hcc]; simp only [am_to, ht]; rfl
  · refine ar_go (c := (pc + 3, ls, st, mem)) hc rfl ?_ (h2 hcc)
    simp only [am_step, am_ib, am_lb, am_misc]
    rw [if_neg hcc]; rfl
theorem ar_ifc {c : Jvm.ClassFile.Cond} {off : Int} {t : Nat} {x : Int32} (hc : am_code k pc = some (.ifCond c off, 3)) (ht : am_jmp pc off = some t) (hq : pc + 3 = q) (h1 : am_cmp c x 0 = true → am_Run X (am_meth d) k R t ls st mem) (h2 : ¬ am_cmp c x 0 = true → am_Run X (am_meth d) k R q ls st mem) : am_Run X (am_meth d) k R pc ls (.int x :: st) mem := by
  subst hq
  by_cases hcc : am_cmp c x 0 = true
  · refine ar_go (c := (t, ls, st, mem)) hc rfl ?_ (h1 hcc)
    simp only [am_step, am_ib, am_lb, am_misc]
    rw [if_pos hcc]; simp only [am_to, ht]; rfl
  · refine ar_go (c := (pc + 3, ls, st, mem)) hc rfl ?_ (h2 hcc)
    simp only [am_step, am_ib, am_lb, am_misc]
    rw [if_neg hcc]; rfl
theorem am_c_eq {x y : Int32} : am_cmp .eq x y = true ↔ x = y := decide_eq_true_iff
theorem am_c_ne {x y : Int32} : am_cmp .ne x y = true ↔ ¬ x = y := decide_eq_true_iff
theorem am_c_lt {x y : Int32} : am_cmp .lt x y = true ↔ x < y := decide_eq_true_iff
theorem am_c_ge {x y : Int32} : am_cmp .ge x y = true ↔ y ≤ x := decide_eq_true_iff
theorem am_c_gt {x y : Int32} : am_cmp .gt x y = true ↔ y < x := decide_eq_true_iff
theorem am_c_le {x y : Int32} : am_cmp .le x y = true ↔ x ≤ y := decide_eq_true_iff
theorem am_d_ge {x y : Int32} : am_cmp .ge x y = true ↔ ¬ x < y := am_c_ge.trans Int32.not_lt.symm
theorem am_d_gt {x y : Int32} : am_cmp .gt x y = true ↔ ¬ x ≤ y := am_c_gt.trans Int32.not_le.symm
/-- a branch by a plain condition -/
theorem ar_br {c : Jvm.ClassFile.Cond} {off : Int} {t : Nat} {x y : Int32} {P : Prop} (hP : am_cmp c x y = true ↔ P) (hc : am_code k pc = some (.if_icmp c off, 3)) (ht : am_jmp pc off = some t) (hq : pc + 3 = q) (h1 : P → am_Run X (am_meth d) k R t ls st mem) (h2 : ¬ P → am_Run X (am_meth d) k R q ls st mem) : am_Run X (am_meth d) k R pc ls (.int y :: .int x :: st) mem := ar_icmp hc ht hq (fun h => h1 (hP.mp h)) (fun h => h2 (fun p => h (hP.mpr p)))
theorem ar_b0 {c : Jvm.ClassFile.Cond} {off : Int} {t : Nat} {x : Int32} {P : Prop} (hP : am_cmp c x 0 = true ↔ P) (hc : am_code k pc = some (.ifCond c off, 3)) (ht : am_jmp pc off = some t) (hq : pc + 3 = q) (h1 : P → am_Run X (am_meth d) k R t ls st mem) (h2 : ¬ P → am_Run X (am_meth d) k R q ls st mem) : am_Run X (am_meth d) k R pc ls (.int x :: st) mem := ar_ifc hc ht hq (fun h => h1 (hP.mp h)) (fun h => h2 (fun p => h (hP.mpr p)))
theorem ar_tsw {dd lo hi : Int} {offs : Array Int} {n t0 : Nat} {x : Int32} (hc : am_code k pc = some (.tableswitch dd lo hi offs, n)) (hj : am_jmp pc dd = some t0) (h1 : (x.toInt < lo ∨ hi < x.toInt) → am_Run X (am_meth d) k R t0 ls st mem) (h2 : ¬ (x.toInt < lo ∨ hi < x.toInt) → ∃ o t, offs[(x.toInt - lo).toNat]? = some o ∧ am_jmp pc o = some t ∧ am_Run X (am_meth d) k R t ls st mem) : am_Run X (am_meth d) k R pc ls (.int x :: st) mem := by
  by_cases hcc : x.toInt < lo ∨ hi < x.toInt
  · refine ar_go (c := (t0, ls, st, mem)) hc rfl ?_ (h1 hcc)
    simp only [am_step, am_ib, am_lb, am_misc]
    rw [if_pos hcc]; simp only [am_to, hj]; rfl
  · obtain ⟨o, t, e1, e2, e3⟩ := h2 hcc
    refine ar_go (c := (t, ls, st, mem)) hc rfl ?_ e3
    simp only [am_step, am_ib, am_lb, am_misc]
    rw [if_neg hcc]; simp only [e1, am_to, e2]; rfl
theorem ar_iald {a n : Nat} {f : Nat → Int32} {i v : Int32} (hc : am_code k pc = some (.iaload, 1)) (hm : hp[a]? = some (.inl (0, n, f))) (hi : am_in i n = true) (hv : f i.toNatClampNeg = v) (hq : pc + 1 = q) (h : am_Run X (am_meth d) k R q ls (.int v :: st) (hp, b)) : am_Run X (am_meth d) k R pc ls (.int i :: .ref a :: st) (hp, b) := by
  subst hq; subst hv
  refine ar_go (c := (pc + 1, ls, .int (f i.toNatClampNeg) :: st, (hp, b))) hc rfl ?_ h
  simp only [am_step, am_ib, am_lb, am_misc, am_iald, hm]
  rw [if_pos hi]; rfl
theorem ar_bald {a kd n : Nat} {f : Nat → Int32} {i v : Int32} (hc : am_code k pc = some (.baload, 1)) (hk : kd = 1 ∨ kd = 2) (hm : hp[a]? = some (.inl (kd, n, f))) (hi : am_in i n = true) (hv : f i.toNatClampNeg = v) (hq : pc + 1 = q) (h : am_Run X (am_meth d) k R q ls (.int v :: st) (hp, b)) : am_Run X (am_meth d) k R pc ls (.int i :: .ref a :: st) (hp, b) := by
  subst hq; subst hv
  refine ar_go (c := (pc + 1, ls, .int (f i.toNatClampNeg) :: st, (hp, b))) hc rfl ?_ h
  rcases hk with rfl | rfl
  · simp only [am_step, am_ib, am_lb, am_misc, am_bald, hm]
    rw [if_pos hi]; rfl
  · simp only [am_step, am_ib, am_lb, am_misc, am_bald, hm]
    rw [if_pos hi]; rfl
theorem ar_lald {a n : Nat} {f : Nat → Int64} {i : Int32} {v : Int64} (hc : am_code k pc = some (.laload, 1)) (hm : hp[a]? = some (.inr (.inl (n, f)))) (hi : am_in i n = true) (hv : f i.toNatClampNeg = v) (hq : pc + 1 = q) (h : am_Run X (am_meth d) k R q ls (.long v :: st) (hp, b)) : am_Run X (am_meth d) k R pc ls (.int i :: .ref a :: st) (hp, b) := by
  subst hq; subst hv
  refine ar_go (c := (pc + 1, ls, .long (f i.toNatClampNeg) :: st, (hp, b))) hc rfl ?_ h
  simp only [am_step, am_ib, am_lb, am_misc, am_lald, hm]
  rw [if_pos hi]; rfl
theorem ar_laldx {i : Int32} {v : Int64} (hc : am_code k pc = some (.laload, 1)) (hi : am_in i 6 = true) (hv : am_w6 i.toNatClampNeg = v) (hq : pc + 1 = q) (h : am_Run X (am_meth d) k R q ls (.long v :: st) mem) : am_Run X (am_meth d) k R pc ls (.int i :: .float 1 :: st) mem := by
  subst hq; subst hv
  refine ar_go (c := (pc + 1, ls, .long (am_w6 i.toNatClampNeg) :: st, mem)) hc rfl ?_ h
  simp only [am_step, am_ib, am_lb, am_misc, am_lald]
  rw [if_pos trivial, if_pos hi]; rfl
theorem ar_baldx {i v : Int32} (hc : am_code k pc = some (.baload, 1)) (hi : am_in i 10 = true) (hv : am_tx i.toNatClampNeg = v) (hq : pc + 1 = q) (h : am_Run X (am_meth d) k R q ls (.int v :: st) mem) : am_Run X (am_meth d) k R pc ls (.int i :: .float 3 :: st) mem := by
  subst hq; subst hv
  refine ar_go (c := (pc + 1, ls, .int (am_tx i.toNatClampNeg) :: st, mem)) hc rfl ?_ h
  simp only [am_step, am_ib, am_lb, am_misc, am_bald]
  rw [if_pos trivial, if_pos hi]; rfl
theorem ar_sld {i v : Int32} {x : Nat × (Nat → Int32)} (hX : X = some x) (hc : am_code k pc = some (.iaload, 1)) (hi : am_in i x.1 = true) (hv : x.2 i.toNatClampNeg = v) (hq : pc + 1 = q) (h : am_Run X (am_meth d) k R q ls (.int v :: st) mem) : am_Run X (am_meth d) k R pc ls (.int i :: .float 0 :: st) mem := by
  subst hq; subst hv; subst hX
  refine ar_go (c := (pc + 1, ls, .int (x.2 i.toNatClampNeg) :: st, mem)) hc rfl ?_ h
  simp only [am_step, am_ib, am_lb, am_misc, am_iald]
  rw [if_pos trivial, if_pos hi]; rfl
theorem ar_aald {a n c2 : Nat} {f : Nat → Option Nat} {i : Int32} (hc : am_code k pc = some (.aaload, 1)) (hm : hp[a]? = some (.inr (.inr (.inl (n, f))))) (hi : am_in i n = true) (hv : f i.toNatClampNeg = some c2) (hq : pc + 1 = q) (h : am_Run X (am_meth d) k R q ls (.ref c2 :: st) (hp, b)) : am_Run X (am_meth d) k R pc ls (.int i :: .ref a :: st) (hp, b) := by
  subst hq
  refine ar_go (c := (pc + 1, ls, .ref c2 :: st, (hp, b))) hc rfl ?_ h
  simp only [am_step, am_ib, am_lb, am_misc, am_aald, hm]
  rw [if_pos hi]; simp only [hv]; rfl
theorem ar_iast {a n : Nat} {f : Nat → Int32} {i x : Int32} {hp2 : List am_C} (hc : am_code k pc = some (.iastore, 1)) (hm : hp[a]? = some (.inl (0, n, f))) (hi : am_in i n = true) (hs : hp.set a (.inl (0, n, upd f i.toNatClampNeg x)) = hp2) (hq : pc + 1 = q) (h : am_Run X (am_meth d) k R q ls st (hp2, b)) : am_Run X (am_meth d) k R pc ls (.int x :: .int i :: .ref a :: st) (hp, b) := by
  subst hq; subst hs
  refine ar_go (c := (pc + 1, ls, st, (_, b))) hc rfl ?_ h
  simp only [am_step, am_ib, am_lb, am_misc, am_iast, hm]
  rw [if_pos hi]; rfl
theorem ar_bast1 {a n : Nat} {f : Nat → Int32} {i x : Int32} {hp2 : List am_C} (hc : am_code k pc = some (.bastore, 1)) (hm : hp[a]? = some (.inl (1, n, f))) (hi : am_in i n = true) (hs : hp.set a (.inl (1, n, upd f i.toNatClampNeg (vp_nar .byte x))) = hp2) (hq : pc + 1 = q) (h : am_Run X (am_meth d) k R q ls st (hp2, b)) : am_Run X (am_meth d) k R pc ls (.int x :: .int i :: .ref a :: st) (hp, b) := by
  subst hq; subst hs
  refine ar_go (c := (pc + 1, ls, st, (_, b))) hc rfl ?_ h
  simp only [am_step, am_ib, am_lb, am_misc, am_bast, hm]
  rw [if_pos hi]; rfl
theorem ar_bast2 {a n : Nat} {f : Nat → Int32} {i x : Int32} {hp2 : List am_C} (hc : am_code k pc = some (.bastore, 1)) (hm : hp[a]? = some (.inl (2, n, f))) (hi : am_in i n = true) (hs : hp.set a (.inl (2, n, upd f i.toNatClampNeg (vp_nar .boolean x))) = hp2) (hq : pc + 1 = q) (h : am_Run X (am_meth d) k R q ls st (hp2, b)) : am_Run X (am_meth d) k R pc ls (.int x :: .int i :: .ref a :: st) (hp, b) := by
  subst hq; subst hs
  refine ar_go (c := (pc + 1, ls, st, (_, b))) hc rfl ?_ h
  simp only [am_step, am_ib, am_lb, am_misc, am_bast, hm]
  rw [if_pos hi]; rfl
theorem ar_last {a n : Nat} {f : Nat → Int64} {i : Int32} {x : Int64} {hp2 : List am_C} (hc : am_code k pc = some (.lastore, 1)) (hm : hp[a]? = some (.inr (.inl (n, f)))) (hi : am_in i n = true) (hs : hp.set a (.inr (.inl (n, vp_updL f i.toNatClampNeg x))) = hp2) (hq : pc + 1 = q) (h : am_Run X (am_meth d) k R q ls st (hp2, b)) : am_Run X (am_meth d) k R pc ls (.long x :: .int i :: .ref a :: st) (hp, b) := by
  subst hq; subst hs
  refine ar_go (c := (pc + 1, ls, st, (_, b))) hc rfl ?_ h
  simp only [am_step, am_ib, am_lb, am_misc, am_last, hm]
  rw [if_pos hi]; rfl
theorem ar_getf {a idx ci j : Nat} {fs : List Value} {v : Value} (hc : am_code k pc = some (.getfield idx, 3)) (hf : am_fld (am_own k) idx = some (ci, j)) (hm : hp[a]? = some (.inr (.inr (.inr (ci, fs))))) (hv : fs[j]? = some v) (hq : pc + 3 = q) (h : am_Run X (am_meth d) k R q ls (v :: st) (hp, b)) : am_Run X (am_meth d) k R pc ls (.ref a :: st) (hp, b) := by
  subst hq
  refine ar_go (c := (pc + 3, ls, v :: st, (hp, b))) hc rfl ?_ h
  simp only [am_step, am_ib, am_lb, am_misc, am_getf, hf, hm]
  rw [if_pos trivial]; simp only [hv]; rfl
theorem ar_getx {idx : Nat} {v : Value} (hc : am_code k pc = some (.getfield idx, 3)) (hf : am_xf (am_own k) idx = some v) (hq : pc + 3 = q) (h : am_Run X (am_meth d) k R q ls (v :: st) mem) : am_Run X (am_meth d) k R pc ls (.float 2 :: st) mem := by
  subst hq
  refine ar_go (c := (pc + 3, ls, v :: st, mem)) hc rfl ?_ h
  simp only [am_step, am_ib, am_lb, am_misc, am_getf]
  rw [if_pos trivial]; simp only [hf]; rfl
theorem ar_putf {a idx ci j : Nat} {fs : List Value} {v : Value} {hp2 : List am_C} (hc : am_code k pc = some (.putfield idx, 3)) (hf : am_fld (am_own k) idx = some (ci, j)) (hm : hp[a]? = some (.inr (.inr (.inr (ci, fs))))) (hg : (decide (ci = ci) && decide (j < fs.length) && am_fit (am_T ci j) v && (!(am_F ci j).2.2.2 || (decide (am_kd k = 2) && decide (ci = am_own k)))) = true) (hs : hp.set a (.inr (.inr (.inr (ci, fs.set j v)))) = hp2) (hq : pc + 3 = q) (h : am_Run X (am_meth d) k R q ls st (hp2, b)) : am_Run X (am_meth d) k R pc ls (v :: .ref a :: st) (hp, b) := by
  subst hq; subst hs
  refine ar_go (c := (pc + 3, ls, st, (_, b))) hc rfl ?_ h
  simp only [am_step, am_ib, am_lb, am_misc, am_putf, hf, hm]
  rw [if_pos (by simpa using hg)]; rfl
theorem ar_iret {x : Int32} (hc : am_code k pc = some (.ireturn, 1)) (hr : am_rt k = some .int) (h : R (some (.int x)) mem) : am_Run X (am_meth d) k R pc ls [.int x] mem := by
  refine ar_rt (v := (some (.int x), mem)) hc rfl ?_ h
  simp only [am_step, am_ib, am_lb, am_misc, am_iret, hr]
theorem ar_zret {x : Int32} (hc : am_code k pc = some (.ireturn, 1)) (hr : am_rt k = some .boolean) (hx : x = 0 ∨ x = 1) (h : R (some (.int x)) mem) : am_Run X (am_meth d) k R pc ls [.int x] mem := by
  refine ar_rt (v := (some (.int x), mem)) hc rfl ?_ h
  simp only [am_step, am_ib, am_lb, am_misc, am_iret, hr]
  rw [if_pos hx]
theorem ar_bret {x : Int32} (hc : am_code k pc = some (.ireturn, 1)) (hr : am_rt k = some .byte) (hx : x = 0 ∨ x = 1) (h : R (some (.int x)) mem) : am_Run X (am_meth d) k R pc ls [.int x] mem := by
  refine ar_rt (v := (some (.int x), mem)) hc rfl ?_ h
  simp only [am_step, am_ib, am_lb, am_misc, am_iret, hr]
  rw [if_pos hx]
theorem ar_lret {x : Int64} (hc : am_code k pc = some (.lreturn, 1)) (hr : am_rt k = some .long) (h : R (some (.long x)) mem) : am_Run X (am_meth d) k R pc ls [.long x] mem := by
  refine ar_rt (v := (some (.long x), mem)) hc rfl ?_ h
  simp only [am_step, am_ib, am_lb, am_misc, am_lret, hr]
theorem ar_vret (hc : am_code k pc = some (.return_, 1)) (hr : am_rt k = none) (h : R none mem) : am_Run X (am_meth d) k R pc ls [] mem := by
  refine ar_rt (v := (none, mem)) hc rfl ?_ h
  simp only [am_step, am_ib, am_lb, am_misc, am_vret, hr]
theorem ar_invv {idx k2 a ci : Nat} {fs : List Value} {as rest : List Value} {b2 b3 : Nat × Nat} (hc : am_code k pc = some (.invokevirtual idx, 3)) (hm : am_mth (am_own k) idx = some k2) (hst : st = as.reverse ++ .ref a :: rest) (hn : as.length = am_na k2) (hcell : hp[a]? = some (.inr (.inr (.inr (ci, fs))))) (hk : (decide (am_kd k2 = 0) && decide (ci = am_own k2)) = true) (hg : (decide (am_cat rest ≤ 8) && decide (am_bc k2 ≤ b.1) && decide (am_bs k2 ≤ b.2)) = true) (hb2 : (am_bc k2, am_bs k2) = b2) (hb3 : (b.1 - am_bc k2, b.2 - am_bs k2) = b3) (hq : pc + 3 = q) (h : am_meth d k2 (.ref a :: as) (hp, b2) (fun v m => am_Run X (am_meth d) k R q ls (v.toList ++ rest) (m.1, b3))) : am_Run X (am_meth d) k R pc ls st (hp, b) := by
  subst hq; subst hb2; subst hb3; subst hst
  have h1 : (as.reverse ++ Value.ref a :: rest).drop (am_na k2) = .ref a :: rest := by
    rw [← hn, ← List.length_reverse, List.drop_left]
  have h2 : ((as.reverse ++ Value.ref a :: rest).take (am_na k2)).reverse = as := by
    rw [← hn, ← List.length_reverse, List.take_left, List.reverse_reverse]
  refine ar_cl (v := (k2, .ref a :: as, (hp, am_bc k2, am_bs k2), pc + 3, ls, rest, b.1 - am_bc k2, b.2 - am_bs k2)) hc rfl ?_ h
  simp only [am_step, am_ib, am_lb, am_misc, am_invv, hm, h1, h2, hcell]
  rw [if_pos hk, am_cal, if_pos hg]
theorem ar_invx {idx k2 : Nat} {as rest : List Value} {b2 b3 : Nat × Nat} (hc : am_code k pc = some (.invokevirtual idx, 3)) (hm : am_mth (am_own k) idx = some k2) (hst : st = as.reverse ++ .float 2 :: rest) (hn : as.length = am_na k2) (hk : (decide ((2 : UInt32) = 2) && decide (am_kd k2 = 0) && decide (am_own k2 = am_str)) = true) (hg : (decide (am_cat rest ≤ 8) && decide (am_bc k2 ≤ mem.2.1) && decide (am_bs k2 ≤ mem.2.2)) = true) (hb2 : (am_bc k2, am_bs k2) = b2) (hb3 : (mem.2.1 - am_bc k2, mem.2.2 - am_bs k2) = b3) (hq : pc + 3 = q) (h : am_meth d k2 (.float 2 :: as) (mem.1, b2) (fun v m => am_Run X (am_meth d) k R q ls (v.toList ++ rest) (m.1, b3))) : am_Run X (am_meth d) k R pc ls st mem := by
  subst hq; subst hb2; subst hb3; subst hst
  have h1 : (as.reverse ++ Value.float 2 :: rest).drop (am_na k2) = .float 2 :: rest := by
    rw [← hn, ← List.length_reverse, List.drop_left]
  have h2 : ((as.reverse ++ Value.float 2 :: rest).take (am_na k2)).reverse = as := by
    rw [← hn, ← List.length_reverse, List.take_left, List.reverse_reverse]
  refine ar_cl (v := (k2, .float 2 :: as, (mem.1, am_bc k2, am_bs k2), pc + 3, ls, rest, mem.2.1 - am_bc k2, mem.2.2 - am_bs k2)) hc rfl ?_ h
  simp only [am_step, am_ib, am_lb, am_misc, am_invv, hm, h1, h2]
  rw [if_pos (by simpa using hk), am_cal, if_pos hg]
theorem ar_invs {idx k2 : Nat} {as rest : List Value} {b2 b3 : Nat × Nat} (hc : am_code k pc = some (.invokestatic idx, 3)) (hm : am_mth (am_own k) idx = some k2) (hst : st = as.reverse ++ rest) (hn : as.length = am_na k2) (hk : am_kd k2 = 1) (hg : (decide (am_cat rest ≤ 8) && decide (am_bc k2 ≤ mem.2.1) && decide (am_bs k2 ≤ mem.2.2)) = true) (hb2 : (am_bc k2, am_bs k2) = b2) (hb3 : (mem.2.1 - am_bc k2, mem.2.2 - am_bs k2) = b3) (hq : pc + 3 = q) (h : am_meth d k2 as (mem.1, b2) (fun v m => am_Run X (am_meth d) k R q ls (v.toList ++ rest) (m.1, b3))) : am_Run X (am_meth d) k R pc ls st mem := by
  subst hq; subst hb2; subst hb3; subst hst
  have h1 : (as.reverse ++ rest).drop (am_na k2) = rest := by
    rw [← hn, ← List.length_reverse, List.drop_left]
  have h2 : ((as.reverse ++ rest).take (am_na k2)).reverse = as := by
    rw [← hn, ← List.length_reverse, List.take_left, List.reverse_reverse]
  have h3 : (decide (am_kd k2 = 1) && decide (am_na k2 ≤ (as.reverse ++ rest).length)) = true := by
    simp only [Bool.and_eq_true, decide_eq_true_eq]
    refine ⟨hk, ?_⟩
    rw [List.length_append, List.length_reverse, hn]
    omega
  refine ar_cl (v := (k2, as, (mem.1, am_bc k2, am_bs k2), pc + 3, ls, rest, mem.2.1 - am_bc k2, mem.2.2 - am_bs k2)) hc rfl ?_ h
  simp only [am_step, am_ib, am_lb, am_misc, am_invs, hm]
  rw [if_pos h3]
  simp only [h1, h2]
  rw [am_cal, if_pos hg]
theorem ar_invi {idx k2 a : Nat} {as rest : List Value} {b2 b3 : Nat × Nat} (hc : am_code k pc = some (.invokespecial idx, 3)) (h0 : ¬ (decide (idx = am_oi (am_own k)) && decide (am_own k < am_nO)) = true) (hm : am_mth (am_own k) idx = some k2) (hst : st = as.reverse ++ .ref a :: rest) (hn : as.length = am_na k2) (hk : am_kd k2 = 2) (hg : (decide (am_cat rest ≤ 8) && decide (am_bc k2 ≤ mem.2.1) && decide (am_bs k2 ≤ mem.2.2)) = true) (hb2 : (am_bc k2, am_bs k2) = b2) (hb3 : (mem.2.1 - am_bc k2, mem.2.2 - am_bs k2) = b3) (hq : pc + 3 = q) (h : am_meth d k2 (.ref a :: as) (mem.1, b2) (fun v m => am_Run X (am_meth d) k R q ls (v.toList ++ rest) (m.1, b3))) : am_Run X (am_meth d) k R pc ls st mem := by
  subst hq; subst hb2; subst hb3; subst hst
  have h1 : (as.reverse ++ Value.ref a :: rest).drop (am_na k2) = .ref a :: rest := by
    rw [← hn, ← List.length_reverse, List.drop_left]
  have h2 : ((as.reverse ++ Value.ref a :: rest).take (am_na k2)).reverse = as := by
    rw [← hn, ← List.length_reverse, List.take_left, List.reverse_reverse]
  refine ar_cl (v := (k2, .ref a :: as, (mem.1, am_bc k2, am_bs k2), pc + 3, ls, rest, mem.2.1 - am_bc k2, mem.2.2 - am_bs k2)) hc rfl ?_ h
  simp only [am_step, am_ib, am_lb, am_misc, am_invi]
  rw [if_neg h0]
  simp only [hm, h1, h2]
  rw [if_pos hk, am_cal, if_pos hg]
theorem ar_oi {idx a : Nat} (hc : am_code k pc = some (.invokespecial idx, 3)) (h0 : (decide (idx = am_oi (am_own k)) && decide (am_own k < am_nO)) = true) (hcat : am_cat st ≤ 8) (hq : pc + 3 = q) (h : am_Run X (am_meth d) k R q ls st mem) : am_Run X (am_meth d) k R pc ls (.ref a :: st) mem := by
  subst hq
  refine ar_go (c := (pc + 3, ls, st, mem)) hc rfl ?_ h
  simp only [am_step, am_ib, am_lb, am_misc, am_invi]
  rw [if_pos h0]
  rw [if_pos hcat]; rfl
/-- a method's entry -/
theorem ar_in {e : Nat} {as : List Value} (hp0 : am_isp k = false) (hl : am_pad (am_ent as) (am_ml k) = ls) (hn : decide ((am_ent as).length ≤ am_ml k) = true) (h : am_Run am_X0 (am_meth e) k R 0 ls [] mem) : am_meth (e + 1) k as mem R := by
  subst hl
  simp only [am_meth]
  rw [if_neg (by rw [hp0]; decide)]
  exact ⟨of_decide_eq_true hn, h⟩
/-- methods of Math -/
theorem ar_max {x y : Int32} (h : R (some (.int (if x < y then y else x))) mem) : am_meth (d + 1) am_mth1.1 [.int x, .int y] mem R := h
theorem ar_min {x y : Int32} (h : R (some (.int (if y < x then y else x))) mem) : am_meth (d + 1) am_mth1.2.1 [.int x, .int y] mem R := h
theorem ar_lmax {x y : Int64} (h : R (some (.long (if y < x then x else y))) mem) : am_meth (d + 1) am_mth1.2.2.1 [.long x, .long y] mem R := h
theorem ar_lmin {x y : Int64} (h : R (some (.long (if y < x then y else x))) mem) : am_meth (d + 1) am_mth1.2.2.2 [.long x, .long y] mem R := h
end AR
