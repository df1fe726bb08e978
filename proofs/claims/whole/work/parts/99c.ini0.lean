/-! cells are made: rows -/
section NW
variable {X : am_X} {d k : Nat} {R : am_R} {pc q : Nat} {ls ls' : am_L} {st : List Value} {hp : List am_C} {b : Nat × Nat} {mem : am_M}
theorem ar_new {idx ci n : Nat} {hp2 : List am_C} {b2 : Nat × Nat} (hc : am_code k pc = some (.new idx, 3)) (hw : am_nw (am_own k) idx = some ci) (hg : (decide (1 ≤ b.1) && decide (am_N ci ≤ b.2)) = true) (hl : hp.length = n) (hs : hp ++ [.inr (.inr (.inr (ci, am_df ci)))] = hp2) (hb : (b.1 - 1, b.2 - am_N ci) = b2) (hq : pc + 3 = q) (h : am_Run X (am_meth d) k R q ls (.ref n :: st) (hp2, b2)) : am_Run X (am_meth d) k R pc ls st (hp, b) := by
  subst hq; subst hl; subst hs; subst hb
  refine ar_go (c := (pc + 3, ls, .ref hp.length :: st, (_, _))) hc rfl ?_ h
  simp only [am_step, am_ib, am_lb, am_misc, am_new, hw]
  rw [if_pos hg]; rfl
def am_nc (t : Nat) (n : Nat) : am_C := if t = 3 then .inr (.inl (n, fun _ => 0)) else .inl (t, n, fun _ => 0)
def am_nt (t : Nat) : ArrayType := if t = 0 then .int else if t = 1 then .byte else if t = 2 then .boolean else .long
theorem ar_newa {t m n : Nat} {x : Int32} {hp2 : List am_C} {b2 : Nat × Nat} (ht : t < 4) (hc : am_code k pc = some (.newarray (am_nt t), 2)) (hx : x.toNatClampNeg = m) (hg : (!(decide (x < 0)) && decide (m ≤ 1000000) && decide (1 ≤ b.1) && decide (m ≤ b.2)) = true) (hl : hp.length = n) (hs : hp ++ [am_nc t m] = hp2) (hb : (b.1 - 1, b.2 - m) = b2) (hq : pc + 2 = q) (h : am_Run X (am_meth d) k R q ls (.ref n :: st) (hp2, b2)) : am_Run X (am_meth d) k R pc ls (.int x :: st) (hp, b) := by
  subst hq; subst hl; subst hs; subst hb; subst hx
  refine ar_go (c := (pc + 2, ls, .ref hp.length :: st, (_, _))) hc rfl ?_ h
  match t, ht with
  | 0, _ => simp only [am_step, am_ib, am_lb, am_misc, am_newa, am_nt]; rw [if_pos hg]; rfl
  | 1, _ => simp only [am_step, am_ib, am_lb, am_misc, am_newa, am_nt]; rw [if_pos hg]; rfl
  | 2, _ => simp only [am_step, am_ib, am_lb, am_misc, am_newa, am_nt]; rw [if_pos hg]; rfl
  | 3, _ => simp only [am_step, am_ib, am_lb, am_misc, am_newa, am_nt]; rw [if_pos hg]; rfl
theorem ar_mna {idx m j n : Nat} {x y : Int32} {hp2 : List am_C} {b2 : Nat × Nat} (hc : am_code k pc = some (.multianewarray idx 2, 4)) (hx : x.toNatClampNeg = m) (hy : y.toNatClampNeg = j) (hg : (((am_mns.getD (am_own k) []).lookup idx).isSome && !(decide (x < 0)) && !(decide (y < 0)) && decide (m ≤ 1000000) && decide (j ≤ 1000000) && decide (1 + m ≤ b.1) && decide (m + m * j ≤ b.2)) = true) (hl : hp.length = n) (hs : hp ++ .inr (.inr (.inl (m, fun i => some (n + 1 + i)))) :: List.replicate m (.inl (0, j, fun _ => 0)) = hp2) (hb : (b.1 - (1 + m), b.2 - (m + m * j)) = b2) (hq : pc + 4 = q) (h : am_Run X (am_meth d) k R q ls (.ref n :: st) (hp2, b2)) : am_Run X (am_meth d) k R pc ls (.int y :: .int x :: st) (hp, b) := by
  subst hq; subst hl; subst hs; subst hb; subst hx; subst hy
  refine ar_go (c := (pc + 4, ls, .ref hp.length :: st, (_, _))) hc rfl ?_ h
  simp only [am_step, am_ib, am_lb, am_misc, am_mna]
  rw [if_pos trivial, if_pos hg]; rfl
theorem ar_maxE {x y z : Int32} (hz : (if x < y then y else x) = z) (h : R (some (.int z)) mem) : am_meth (d + 1) am_mth1.1 [.int x, .int y] mem R := by
  subst hz; exact ar_max h
theorem gA {pre own : List am_C} {a j k : Nat} {x : am_C} (hp : pre.length = a) (hk : a + j = k) (h : own[j]? = some x) : (pre ++ own)[k]? = some x := by
  subst hp; subst hk
  rw [List.getElem?_append_right (by omega), show pre.length + j - pre.length = j from by omega]; exact h
theorem sA {pre own own2 : List am_C} {a j k : Nat} {x : am_C} (hp : pre.length = a) (hk : a + j = k) (h : own.set j x = own2) : (pre ++ own).set k x = pre ++ own2 := by
  subst hp; subst hk; subst h
  rw [List.set_append_right _ _ (by omega), show pre.length + j - pre.length = j from by omega]
theorem lA {pre own : List am_C} {a m k : Nat} (hp : pre.length = a) (h : own.length = m) (hk : a + m = k) : (pre ++ own).length = k := by rw [List.length_append, hp, h, hk]
theorem aA {pre own ext own2 : List am_C} (h : own ++ ext = own2) : (pre ++ own) ++ ext = pre ++ own2 := by rw [List.append_assoc, h]
end NW
theorem gr_Str_coder_0 {d : Nat} {R : am_R} {hp : List am_C}  (h : R (some (.int 0)) (hp, 0, 0)) : am_Run am_X0 (am_meth d) 251 R 0 [some (.float 2)] [] (hp, 0, 0) := by
  refine ar_gets (q := 3) rfl rfl rfl ?_
  refine ar_b0 am_c_eq (t := 13) (q := 6) rfl rfl rfl (fun c9 => absurd c9 (by decide)) (fun _ => ?_)
  refine ar_aload_nx (j := 0) (q := 7) rfl rfl rfl rfl ?_
  refine ar_getx (v := .int 0) (q := 10) rfl rfl rfl ?_
  refine ar_goto (t := 14) rfl rfl ?_
  exact ar_bret rfl rfl (Or.inl rfl) h
theorem gok_Str_coder {d : Nat} {R : am_R} {hp : List am_C} (hd : 1 ≤ d) (h : R (some (.int 0)) (hp, 0, 0)) : am_meth d 251 [.float 2] (hp, 0, 0) R := by
  obtain ⟨d, rfl⟩ : ∃ e, d = e + 1 := ⟨d - 1, by omega⟩
  exact ar_in rfl rfl rfl (gr_Str_coder_0 h)
theorem gr_Str_length_0 {d : Nat} (hd : 1 ≤ d) {R : am_R} {hp : List am_C}  (h : R (some (.int ((10 : Int32) >>> ((0 : Int32) &&& 31)))) (hp, 0, 0)) : am_Run am_X0 (am_meth d) 250 R 0 [some (.float 2)] [] (hp, 0, 0) := by
  refine ar_aload_nx (j := 0) (q := 1) rfl rfl rfl rfl ?_
  refine ar_getx (v := .float 3) (q := 4) rfl rfl rfl ?_
  refine ar_st (i := .arraylength) (n := 1) (st' := [.int 10]) (q := 5) rfl rfl rfl rfl ?_
  refine ar_aload_nx (j := 0) (q := 6) rfl rfl rfl rfl ?_
  refine ar_invx (as := []) (rest := [.int 10]) (b2 := (0, 0)) (b3 := (0, 0)) (q := 9) rfl rfl rfl rfl rfl rfl rfl rfl rfl ?_
  refine gok_Str_coder (by omega)  ?_
  show am_Run am_X0 (am_meth d) 250 R 9 [some (.float 2)] [.int 0, .int 10] (hp, 0, 0)
  refine ar_ib (i := .ishr) (z := (10 : Int32) >>> ((0 : Int32) &&& 31)) (q := 10) rfl rfl rfl rfl rfl ?_
  exact ar_iret rfl rfl h
theorem gok_Str_length {d : Nat} {R : am_R} {hp : List am_C} (hd : 2 ≤ d) (h : R (some (.int 10)) (hp, 0, 0)) : am_meth d 250 [.float 2] (hp, 0, 0) R := by
  obtain ⟨d, rfl⟩ : ∃ e, d = e + 1 := ⟨d - 1, by omega⟩
  exact ar_in rfl rfl rfl (gr_Str_length_0 (by omega) h)
