/-! Arrays.fill, over any memory -/
theorem ar_alen {X : am_X} {d k pc q : Nat} {R : am_R} {ls : am_L} {st : List Value} {hp : List am_C} {b : Nat × Nat} {a n : Nat} {f : Nat → Int32} (hc : am_code k pc = some (.arraylength, 1)) (hm : hp[a]? = some (.inl (0, n, f))) (hq : pc + 1 = q) (h : am_Run X (am_meth d) k R q ls (.int (nI n) :: st) (hp, b)) : am_Run X (am_meth d) k R pc ls (.ref a :: st) (hp, b) := by
  subst hq
  refine ar_go (c := (pc + 1, ls, .int (nI n) :: st, (hp, b))) hc rfl ?_ h
  simp only [am_step, am_ib, am_lb, am_misc, am_alen, hm]; rfl
theorem ar_alenL {X : am_X} {d k pc q : Nat} {R : am_R} {ls : am_L} {st : List Value} {hp : List am_C} {b : Nat × Nat} {a n : Nat} {f : Nat → Int64} (hc : am_code k pc = some (.arraylength, 1)) (hm : hp[a]? = some (.inr (.inl (n, f)))) (hq : pc + 1 = q) (h : am_Run X (am_meth d) k R q ls (.int (nI n) :: st) (hp, b)) : am_Run X (am_meth d) k R pc ls (.ref a :: st) (hp, b) := by
  subst hq
  refine ar_go (c := (pc + 1, ls, .int (nI n) :: st, (hp, b))) hc rfl ?_ h
  simp only [am_step, am_ib, am_lb, am_misc, am_alen, hm]; rfl
/-- a row's first i are v -/
def am_fi {α : Type} (f : Nat → α) (v : α) (i : Nat) : Nat → α := fun j => if j < i then v else f j
theorem fl_0 {α : Type} {f : Nat → α} {v : α} : am_fi f v 0 = f := funext (fun j => if_neg (Nat.not_lt_zero j))
theorem fl_s {f : Nat → Int32} {v : Int32} {i : Nat} : upd (am_fi f v i) i v = am_fi f v (i + 1) := by
  funext j
  unfold am_fi
  rw [am_uat]
  by_cases e : j = i
  · rw [if_pos e, if_pos (by omega)]
  · rw [if_neg e]
    by_cases c : j < i
    · rw [if_pos c, if_pos (by omega)]
    · rw [if_neg c, if_neg (by omega)]
theorem fl_sL {f : Nat → Int64} {v : Int64} {i : Nat} : vp_updL (am_fi f v i) i v = am_fi f v (i + 1) := by
  funext j
  unfold am_fi
  show (if j = i then v else (if j < i then v else f j)) = _
  by_cases e : j = i
  · rw [if_pos e, if_pos (by omega)]
  · rw [if_neg e]
    by_cases c : j < i
    · rw [if_pos c, if_pos (by omega)]
    · rw [if_neg c, if_neg (by omega)]
theorem am_set_self {hp : List am_C} {a : Nat} {c : am_C} (h : hp[a]? = some c) : hp.set a c = hp := by
  obtain ⟨h1, h2⟩ := List.getElem?_eq_some_iff.mp h
  rw [← h2, List.set_getElem_self]
theorem am_get_set {hp : List am_C} {a : Nat} {c x : am_C} (h : hp[a]? = some c) : (hp.set a x)[a]? = some x := by
  obtain ⟨h1, _⟩ := List.getElem?_eq_some_iff.mp h
  rw [List.getElem?_set_self h1]
theorem ok_fill {d : Nat} {R : am_R} {hp : List am_C} {b : Nat × Nat} {a n : Nat} {f : Nat → Int32} {v : Int32} (hd : 1 ≤ d) (hm : hp[a]? = some (.inl (0, n, f))) (hn : n ≤ 100000) (h : R none (hp.set a (.inl (0, n, am_fi f v n)), b)) : am_meth d 242 [.ref a, .int v] (hp, b) R := by
  obtain ⟨d, rfl⟩ : ∃ e, d = e + 1 := ⟨d - 1, by omega⟩
  refine ar_in (ls := [some (.ref a), some (.int v), none, none]) rfl rfl rfl ?_
  refine ar_iconst (v := 0) (q := 1) rfl rfl rfl ?_
  refine ar_istore_n (j := 2) (ls' := [some (.ref a), some (.int v), some (.int 0), none]) (q := 2) rfl rfl rfl rfl rfl ?_
  refine ar_aload_n (j := 0) (q := 3) rfl rfl rfl rfl ?_
  refine ar_alen (q := 4) rfl hm rfl ?_
  refine ar_istore_n (j := 3) (ls' := [some (.ref a), some (.int v), some (.int 0), some (.int (nI n))]) (q := 5) rfl rfl rfl rfl rfl ?_
  have key := am_up (P := fun i => am_Run am_X0 (am_meth d) 242 R 5 [some (.ref a), some (.int v), some (.int (nI i)), some (.int (nI n))] [] (hp.set a (.inl (0, n, am_fi f v i)), b)) (n := n) ?_ (fun i hi ih => ?_)
  · rw [show (nI 0) = (0 : Int32) from rfl, fl_0, am_set_self hm] at key
    exact key
  · refine ar_iload_n (j := 2) (q := 6) rfl rfl rfl rfl ?_
    refine ar_iload_n (j := 3) (q := 7) rfl rfl rfl rfl ?_
    refine ar_br (t := 20) (q := 10) am_d_ge rfl rfl rfl (fun _ => ?_) (fun c => absurd (nI_nlt (Nat.le_refl n) (by omega)) c)
    exact ar_vret rfl rfl h
  · refine ar_iload_n (j := 2) (q := 6) rfl rfl rfl rfl ?_
    refine ar_iload_n (j := 3) (q := 7) rfl rfl rfl rfl ?_
    refine ar_br (t := 20) (q := 10) am_d_ge rfl rfl rfl (fun c => absurd (nI_lt hi (by omega)) c) (fun _ => ?_)
    refine ar_aload_n (j := 0) (q := 11) rfl rfl rfl rfl ?_
    refine ar_iload_n (j := 2) (q := 12) rfl rfl rfl rfl ?_
    refine ar_iload_n (j := 1) (q := 13) rfl rfl rfl rfl ?_
    refine ar_iast (hp2 := hp.set a (.inl (0, n, am_fi f v (i + 1)))) (q := 14) rfl (am_get_set hm) (am_inE rfl hi (by omega)) (by rw [am_clT (n := n) rfl hi (by omega), fl_s, List.set_set]) rfl ?_
    refine ar_iinc (v := nI (i + 1)) (ls' := [some (.ref a), some (.int v), some (.int (nI (i + 1))), some (.int (nI n))]) (q := 17) rfl rfl rfl (nI_1 _) rfl rfl ?_
    exact ar_goto (t := 5) rfl rfl ih
theorem ok_fillL {d : Nat} {R : am_R} {hp : List am_C} {b : Nat × Nat} {a n : Nat} {f : Nat → Int64} {v : Int64} (hd : 1 ≤ d) (hm : hp[a]? = some (.inr (.inl (n, f)))) (hn : n ≤ 100000) (h : R none (hp.set a (.inr (.inl (n, am_fi f v n))), b)) : am_meth d 243 [.ref a, .long v] (hp, b) R := by
  obtain ⟨d, rfl⟩ : ∃ e, d = e + 1 := ⟨d - 1, by omega⟩
  refine ar_in (ls := [some (.ref a), some (.long v), none, none, none]) rfl rfl rfl ?_
  refine ar_iconst (v := 0) (q := 1) rfl rfl rfl ?_
  refine ar_istore_n (j := 3) (ls' := [some (.ref a), some (.long v), none, some (.int 0), none]) (q := 2) rfl rfl rfl rfl rfl ?_
  refine ar_aload_n (j := 0) (q := 3) rfl rfl rfl rfl ?_
  refine ar_alenL (q := 4) rfl hm rfl ?_
  refine ar_istore (ls' := [some (.ref a), some (.long v), none, some (.int 0), some (.int (nI n))]) (q := 6) rfl rfl rfl rfl ?_
  have key := am_up (P := fun i => am_Run am_X0 (am_meth d) 243 R 6 [some (.ref a), some (.long v), none, some (.int (nI i)), some (.int (nI n))] [] (hp.set a (.inr (.inl (n, am_fi f v i))), b)) (n := n) ?_ (fun i hi ih => ?_)
  · rw [show (nI 0) = (0 : Int32) from rfl, fl_0, am_set_self hm] at key
    exact key
  · refine ar_iload_n (j := 3) (q := 7) rfl rfl rfl rfl ?_
    refine ar_iload (q := 9) rfl rfl rfl ?_
    refine ar_br (t := 22) (q := 12) am_d_ge rfl rfl rfl (fun _ => ?_) (fun c => absurd (nI_nlt (Nat.le_refl n) (by omega)) c)
    exact ar_vret rfl rfl h
  · refine ar_iload_n (j := 3) (q := 7) rfl rfl rfl rfl ?_
    refine ar_iload (q := 9) rfl rfl rfl ?_
    refine ar_br (t := 22) (q := 12) am_d_ge rfl rfl rfl (fun c => absurd (nI_lt hi (by omega)) c) (fun _ => ?_)
    refine ar_aload_n (j := 0) (q := 13) rfl rfl rfl rfl ?_
    refine ar_iload_n (j := 3) (q := 14) rfl rfl rfl rfl ?_
    refine ar_lload_n (j := 1) (q := 15) rfl rfl rfl rfl ?_
    refine ar_last (hp2 := hp.set a (.inr (.inl (n, am_fi f v (i + 1))))) (q := 16) rfl (am_get_set hm) (am_inE rfl hi (by omega)) (by rw [am_clT (n := n) rfl hi (by omega), fl_sL, List.set_set]) rfl ?_
    refine ar_iinc (v := nI (i + 1)) (ls' := [some (.ref a), some (.long v), none, some (.int (nI (i + 1))), some (.int (nI n))]) (q := 19) rfl rfl rfl (nI_1 _) rfl rfl ?_
    exact ar_goto (t := 6) rfl rfl ih
