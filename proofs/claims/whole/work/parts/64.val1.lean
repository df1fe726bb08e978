/-! values: joined, held, kept, unit -/
def s_held (v : Int64) : Int64 := if (if v < (1000000000 : Int64) then v else (1000000000 : Int64)) < (-1000000000 : Int64) then (-1000000000 : Int64) else (if v < (1000000000 : Int64) then v else (1000000000 : Int64))
/-- two values joined by a sign's byte -/
def s_jn (g : Int32) (a b : Int64) : Int64 := if g = 42 then a * b else if g = 43 then a + b else if g = 45 then a - b else if g = 47 then (if b = 0 then 0 else a / b) else if g = 60 then (if a < b then 1 else 0) else if g = 61 then (if a = b then 1 else 0) else (if b < a then 1 else 0)
theorem held_e (v : Int64) : s_held v = if v ≤ 1000000000 then (if v < -1000000000 then -1000000000 else v) else 1000000000 := by
  unfold s_held
  by_cases h1 : v < 1000000000
  · rw [if_pos h1, if_pos (show v ≤ 1000000000 by rw [Int64.le_iff_toInt_le]; rw [Int64.lt_iff_toInt_lt] at h1; omega)]
  · rw [if_neg h1, if_neg (by decide)]
    by_cases h2 : v ≤ 1000000000
    · have e : v = 1000000000 := by
        apply Int64.toInt_inj.mp
        rw [Int64.le_iff_toInt_le] at h2
        rw [Int64.lt_iff_toInt_lt] at h1
        omega
      subst e; rfl
    · rw [if_neg h2]
/-- what a level's sum is; what a unit makes of a term; what a bracket is -/
def w_tot (ss : Int32) (so to : Int64) : Int64 := if ss = 0 then to else s_held (if ss = 43 then so + to else so - to)
def w_un (ts : Int32) (to v : Int64) : Int64 := if ts = 0 then v else if ts = 42 then s_held (to * v) else if v = 0 then 0 else s_held (to / v)
def w_clo (re : Int32) (le v : Int64) : Int64 := if re = 0 then v else if re = 60 then (if le < v then 1 else 0) else if re = 61 then (if le = v then 1 else 0) else (if v < le then 1 else 0)
def w_op (I : Nat → Nat → Int32) (l : Nat) : Nat → Nat → Int32 := va_up (va_up (va_up I 140 (upd (I 140) l 0)) 142 (upd (I 142) l 0)) 143 (upd (I 143) l 0)
section VA
variable {d : Nat} {I V : am_V} {L : Nat → Nat → Int64} {R : am_R}
theorem ok_Te_held {v : Int64} (hd : 2 ≤ d) (h : R (some (.long (s_held v))) (am_mk I L, 0, 0)) : am_meth d 131 [.long v] (am_mk I L, 0, 0) R := by
  obtain ⟨d, rfl⟩ : ∃ e, d = e + 1 := ⟨d - 1, by omega⟩
  exact ar_in rfl rfl rfl (r_Terms_held_0 (by omega) h)
theorem ok_Te_joined {g : Int32} {a b : Int64} (hd : 1 ≤ d) (h : R (some (.long (s_jn g a b))) (am_mk I L, 0, 0)) : am_meth d 130 [.int g, .long a, .long b] (am_mk I L, 0, 0) R := by
  obtain ⟨d, rfl⟩ : ∃ e, d = e + 1 := ⟨d - 1, by omega⟩
  refine ar_in rfl rfl rfl (r_Terms_joined_0 ⟨fun q => ?_, fun q => ?_, fun q => ?_, fun q => ?_, fun q => ?_, fun q => ?_, fun q => ?_⟩)
  · have e := toInt_e (n := 42) q (by decide); subst e; exact h
  · have e := toInt_e (n := 43) q (by decide); subst e; exact h
  · have e := toInt_e (n := 45) q (by decide); subst e; exact h
  · have e := toInt_e (n := 47) q (by decide); subst e
    have h : R (some (.long (if b = 0 then 0 else a / b))) (am_mk I L, 0, 0) := h
    rw [lg_cmp_eq]
    refine ⟨fun c => ?_, fun c => ⟨c, ?_⟩⟩
    · rw [if_pos c] at h; exact h
    · rw [if_neg c] at h; exact h
  · have e := toInt_e (n := 60) q (by decide); subst e
    have h : R (some (.long (if a < b then 1 else 0))) (am_mk I L, 0, 0) := h
    rw [lg_cmp_lt]
    refine ⟨fun c => ?_, fun c => ?_⟩
    · rw [if_pos c] at h; exact h
    · rw [if_neg c] at h; exact h
  · have e := toInt_e (n := 61) q (by decide); subst e
    have h : R (some (.long (if a = b then 1 else 0))) (am_mk I L, 0, 0) := h
    rw [lg_cmp_eq]
    refine ⟨fun c => ?_, fun c => ?_⟩
    · rw [if_pos c] at h; exact h
    · rw [if_neg c] at h; exact h
  · unfold s_jn at h
    rw [if_neg (fun e => by subst e; revert q; decide), if_neg (fun e => by subst e; revert q; decide), if_neg (fun e => by subst e; revert q; decide), if_neg (fun e => by subst e; revert q; decide), if_neg (fun e => by subst e; revert q; decide), if_neg (fun e => by subst e; revert q; decide)] at h
    rw [lg_cmp_le]
    refine ⟨fun c => ?_, fun c => ?_⟩
    · rw [if_neg (lg_le_not_lt c)] at h; exact h
    · rw [if_pos (Int64.not_le.mp c)] at h; exact h
theorem ok_M_kept {v : Int64} (hd : 1 ≤ d) (h : R (some (.long (s_held v))) (am_mk I L, 0, 0)) : am_meth d 178 [.ref 113, .long v] (am_mk I L, 0, 0) R := by
  obtain ⟨d, rfl⟩ : ∃ e, d = e + 1 := ⟨d - 1, by omega⟩
  refine ar_in rfl rfl rfl (r_M_kept_0 ?_)
  rw [held_e] at h
  rw [lg_cmp_le, lg_cmp_lt]
  refine ⟨fun c => ⟨fun c2 => ?_, fun c2 => ?_⟩, fun c => ?_⟩
  · rw [if_pos c, if_pos c2] at h; exact h
  · rw [if_pos c, if_neg c2] at h; exact h
  · rw [if_neg c] at h; exact h
theorem ok_M_total {x : Int32} {l : Nat} (hd : 2 ≤ d) (hx : x = nI l) (hl : l < 7) (h : R (some (.long (w_tot (I 140 l) (L 139 l) (L 141 l)))) (am_mk I L, 0, 0)) : am_meth d 177 [.ref 113, .int x] (am_mk I L, 0, 0) R := by
  obtain ⟨d, rfl⟩ : ∃ e, d = e + 1 := ⟨d - 1, by omega⟩
  subst hx
  unfold w_tot at h
  refine ar_in rfl rfl rfl (r_M_total_0 ⟨hl, fun c => ?_, fun c => ⟨fun c2 => ?_, fun c2 => ?_⟩⟩)
  · rw [if_pos c] at h; exact h
  · rw [if_neg c, if_pos c2] at h; exact ok_M_kept (by omega) ⟨_, _, _, rfl, rfl, h⟩
  · rw [if_neg c, if_neg c2] at h; exact ok_M_kept (by omega) ⟨_, _, _, rfl, rfl, h⟩
theorem ok_M_closed {x : Int32} {l : Nat} (hd : 3 ≤ d) (hx : x = nI l) (hl : l < 7) (h : R (some (.long (w_clo (I 143 l) (L 144 l) (w_tot (I 140 l) (L 139 l) (L 141 l))))) (am_mk I L, 0, 0)) : am_meth d 176 [.ref 113, .int x] (am_mk I L, 0, 0) R := by
  obtain ⟨d, rfl⟩ : ∃ e, d = e + 1 := ⟨d - 1, by omega⟩
  subst hx
  unfold w_clo at h
  refine ar_in rfl rfl rfl (r_M_closed_0 (ok_M_total (by omega) rfl hl ⟨_, _, _, rfl, rfl, hl, fun c => ?_, fun c => ⟨fun c2 => ?_, fun c2 => ⟨fun c3 => ?_, fun c3 => ?_⟩⟩⟩))
  · rw [if_pos c] at h; exact h
  · rw [if_neg c, if_pos c2] at h
    rw [lg_cmp_lt]
    refine ⟨fun c4 => ?_, fun c4 => ?_⟩
    · rw [if_pos c4] at h; exact h
    · rw [if_neg c4] at h; exact h
  · rw [if_neg c, if_neg c2, if_pos c3] at h
    rw [lg_cmp_eq]
    refine ⟨fun c4 => ?_, fun c4 => ?_⟩
    · rw [if_pos c4] at h; exact h
    · rw [if_neg c4] at h; exact h
  · rw [if_neg c, if_neg c2, if_neg c3] at h
    rw [lg_cmp_le]
    refine ⟨fun c4 => ?_, fun c4 => ?_⟩
    · rw [if_neg (lg_le_not_lt c4)] at h; exact h
    · rw [if_pos (Int64.not_le.mp c4)] at h; exact h
theorem ok_M_open {x : Int32} {l : Nat} (hd : 1 ≤ d) (hx : x = nI l) (hl : l < 7) (h : R none (am_mk (w_op I l) L, 0, 0)) : am_meth d 175 [.ref 113, .int x] (am_mk I L, 0, 0) R := by
  obtain ⟨d, rfl⟩ : ∃ e, d = e + 1 := ⟨d - 1, by omega⟩
  subst hx
  refine ar_in rfl rfl rfl (r_M_open_0 ⟨hl, ?_⟩)
  rintro _ rfl _ rfl _ rfl
  exact h
theorem ok_M_unit {x : Int32} {v : Int64} {l : Nat} (hd : 2 ≤ d) (hx : x = nI l) (hl : l < 7) (h : R none (am_mk I (va_up L 141 (vp_updL (L 141) l (w_un (I 142 l) (L 141 l) v))), 0, 0)) : am_meth d 179 [.ref 113, .int x, .long v] (am_mk I L, 0, 0) R := by
  obtain ⟨d, rfl⟩ : ∃ e, d = e + 1 := ⟨d - 1, by omega⟩
  subst hx
  unfold w_un at h
  refine ar_in rfl rfl rfl (r_M_unit_0 ⟨hl, fun c => ?_, fun c => ⟨fun c2 => ?_, fun c2 => ?_⟩⟩)
  · rw [if_pos c] at h
    rintro _ rfl; exact h
  · rw [if_neg c, if_pos c2] at h
    refine ok_M_kept (by omega) ⟨_, _, _, rfl, rfl, ?_⟩
    rintro _ rfl; exact h
  · rw [if_neg c, if_neg c2] at h
    rw [lg_cmp_eq]
    refine ⟨fun c3 => ?_, fun c3 => ⟨c3, ?_⟩⟩
    · rw [if_pos c3] at h
      rintro _ rfl; exact h
    · rw [if_neg c3] at h
      refine ok_M_kept (by omega) ⟨_, _, _, rfl, rfl, ?_⟩
      rintro _ rfl; exact h
theorem ok_M_isDigit {x : Int32} (hd : 1 ≤ d) (h1 : p_dig x = true → R (some (.int 1)) (am_mk I L, 0, 0)) (h0 : ¬ (p_dig x = true) → R (some (.int 0)) (am_mk I L, 0, 0)) : am_meth d 190 [.ref 113, .int x] (am_mk I L, 0, 0) R := by
  obtain ⟨d, rfl⟩ : ∃ e, d = e + 1 := ⟨d - 1, by omega⟩
  unfold p_dig at h1 h0
  rw [Bool.and_eq_true_iff, decide_eq_true_iff, decide_eq_true_iff] at h1 h0
  refine ar_in rfl rfl rfl (r_M_isDigit_0 ⟨fun c => h0 (fun q => ?_), fun c => ⟨fun c2 => h1 ⟨Int32.not_lt.mp c, c2⟩, fun c2 => h0 (fun q => c2 q.2)⟩⟩)
  exact Int32.not_lt.mpr q.1 c
theorem ok_M_isSign {x : Int32} (hd : 1 ≤ d) (h1 : ((x = 43 ∨ x = 45) ∨ x = 42 ∨ x = 47) → R (some (.int 1)) (am_mk I L, 0, 0)) (h0 : ¬ ((x = 43 ∨ x = 45) ∨ x = 42 ∨ x = 47) → R (some (.int 0)) (am_mk I L, 0, 0)) : am_meth d 180 [.ref 113, .int x] (am_mk I L, 0, 0) R := by
  obtain ⟨d, rfl⟩ : ∃ e, d = e + 1 := ⟨d - 1, by omega⟩
  exact ar_in rfl rfl rfl (r_M_isSign_0 ⟨fun c => h1 (Or.inl (Or.inl c)), fun c => ⟨fun c2 => h1 (Or.inl (Or.inr c2)), fun c2 => ⟨fun c3 => h1 (Or.inr (Or.inl c3)), fun c3 => ⟨fun c4 => h1 (Or.inr (Or.inr c4)), fun c4 => h0 (fun q => by rcases q with (q | q) | q | q; exact c q; exact c2 q; exact c3 q; exact c4 q)⟩⟩⟩⟩)
theorem ok_M_isRelation {x : Int32} (hd : 1 ≤ d) (h1 : (x = 60 ∨ x = 61 ∨ x = 62) → R (some (.int 1)) (am_mk I L, 0, 0)) (h0 : ¬ (x = 60 ∨ x = 61 ∨ x = 62) → R (some (.int 0)) (am_mk I L, 0, 0)) : am_meth d 181 [.ref 113, .int x] (am_mk I L, 0, 0) R := by
  obtain ⟨d, rfl⟩ : ∃ e, d = e + 1 := ⟨d - 1, by omega⟩
  exact ar_in rfl rfl rfl (r_M_isRelation_0 ⟨fun c => h1 (Or.inl c), fun c => ⟨fun c2 => h1 (Or.inr (Or.inl c2)), fun c2 => ⟨fun c3 => h1 (Or.inr (Or.inr c3)), fun c3 => h0 (fun q => by rcases q with q | q | q; exact c q; exact c2 q; exact c3 q)⟩⟩⟩)
theorem let_some {x : Int32} {j : Nat} (h : p_let x = some j) : j < 10 ∧ am_tx j = x := by
  unfold p_let at h
  have h1 := List.find?_some h
  have h2 := List.mem_of_find?_eq_some h
  exact ⟨List.mem_range.mp h2, of_decide_eq_true h1⟩
theorem let_of {x : Int32} {j : Nat} (hj : j < 10) (h : x = am_tx j) : p_let x = some j := by
  subst h
  revert j
  decide
theorem let_none {x : Int32} (h : p_let x = none) {j : Nat} (hj : j < 10) : ¬ x = am_tx j := fun e => by
  rw [let_of hj e] at h; cases h
theorem ok_M_isLetter {x : Int32} (hd : 1 ≤ d) (h1 : (p_let x).isSome = true → R (some (.int 1)) (am_mk I L, 0, 0)) (h0 : ¬ ((p_let x).isSome = true) → R (some (.int 0)) (am_mk I L, 0, 0)) : am_meth d 182 [.ref 113, .int x] (am_mk I L, 0, 0) R := by
  obtain ⟨d, rfl⟩ : ∃ e, d = e + 1 := ⟨d - 1, by omega⟩
  have w : ∀ j, j < 10 → x = am_tx j → (p_let x).isSome = true := fun j hj e => by rw [let_of hj e]; rfl
  refine ar_in rfl rfl rfl (r_M_isLetter_0 ⟨fun c => h1 (w 0 (by decide) c), fun c0 => ⟨fun c => h1 (w 1 (by decide) c), fun c1 => ⟨fun c => h1 (w 2 (by decide) c), fun c2 => ⟨fun c => h1 (w 3 (by decide) c), fun c3 => ⟨fun c => h1 (w 4 (by decide) c), fun c4 => ⟨fun c => h1 (w 5 (by decide) c), fun c5 => ⟨fun c => h1 (w 6 (by decide) c), fun c6 => ⟨fun c => h1 (w 7 (by decide) c), fun c7 => ⟨fun c => h1 (w 8 (by decide) c), fun c8 => ⟨fun c => h1 (w 9 (by decide) c), fun c9 => h0 (fun q => ?_)⟩⟩⟩⟩⟩⟩⟩⟩⟩⟩)
  obtain ⟨j, e⟩ := Option.isSome_iff_exists.mp q
  obtain ⟨hj, e2⟩ := let_some e
  match j, hj, e2 with
  | 0, _, e2 => exact c0 e2.symm
  | 1, _, e2 => exact c1 e2.symm
  | 2, _, e2 => exact c2 e2.symm
  | 3, _, e2 => exact c3 e2.symm
  | 4, _, e2 => exact c4 e2.symm
  | 5, _, e2 => exact c5 e2.symm
  | 6, _, e2 => exact c6 e2.symm
  | 7, _, e2 => exact c7 e2.symm
  | 8, _, e2 => exact c8 e2.symm
  | 9, _, e2 => exact c9 e2.symm
  | j + 10, hj, _ => omega
theorem ok_Te_unit {x : Int32} (hd : 1 ≤ d) (h : R (some (.long (if x - 100000 < 0 then x.toInt64 else if x - 100000 < 10 then (I 100 (x - 100000).toNatClampNeg).toInt64 else x.toInt64))) (am_mk I L, 0, 0)) : am_meth d 129 [.int x, .ref 100] (am_mk I L, 0, 0) R := by
  obtain ⟨d, rfl⟩ : ∃ e, d = e + 1 := ⟨d - 1, by omega⟩
  refine ar_in rfl rfl rfl (r_Terms_unit_0 ⟨fun c => ?_, fun c => ⟨fun c2 => ?_, fun c2 => ?_⟩⟩)
  · rw [if_pos c] at h; exact h
  · rw [if_neg c, if_pos c2] at h
    obtain ⟨j, hj, e⟩ := am_nat (x := x - 100000) (m := 10) ⟨Int32.not_lt.mp c, c2⟩ (by decide)
    refine ⟨j, hj, e, ?_⟩
    rw [e, nI_clamp (by omega)] at h; exact h
  · rw [if_neg c, if_neg c2] at h; exact h
end VA
