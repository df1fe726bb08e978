/-! too long in a land: the class -/
/-- how many of the days a .. b are f .. t's -/
def n_dw (f t a b : Nat) : Nat := (if b < t then b else t) + 1 - (if f < a then a else f)
theorem dw_nat {f t a b : Nat} (hf : f ≤ 1501) (ht : t ≤ 1501) (ha : a ≤ 10000) (hb : b ≤ 10000) : am_dw (nI f) (nI t) (nI a) (nI b) = nI (n_dw f t a b) := by
  unfold am_dw n_dw
  have e1 : (if nI b < nI t then nI b else nI t) = nI (if b < t then b else t) := by
    by_cases q : b < t
    · rw [if_pos q, if_pos (nI_lt q (by omega))]
    · rw [if_neg q, if_neg (nI_nlt (by omega) (by omega))]
  have e2 : (if nI f < nI a then nI a else nI f) = nI (if f < a then a else f) := by
    by_cases q : f < a
    · rw [if_pos q, if_pos (nI_lt q (by omega))]
    · rw [if_neg q, if_neg (nI_nlt (by omega) (by omega))]
  rw [e1, e2]
  have hx : (if b < t then b else t) ≤ 10000 := by split <;> omega
  have hy : (if f < a then a else f) ≤ 10000 := by split <;> omega
  generalize (if b < t then b else t) = x at hx
  generalize (if f < a then a else f) = y at hy
  have e0 : nI x - nI y + 1 = nI (x + 1) - nI y := by
    rw [← nI_1, Int32.sub_eq_add_neg, Int32.sub_eq_add_neg, Int32.add_assoc, Int32.add_comm (-nI y) 1, ← Int32.add_assoc]
  rw [e0]
  by_cases q : y ≤ x + 1
  · rw [pk_sub q, if_neg (nI_pos (by omega))]
  · have : nI (x + 1) - nI y < 0 := pk_sneg (by omega) (by omega)
    rw [if_pos this, show x + 1 - y = 0 from by omega]; rfl
def n_sum (P : Nat → Bool) (x : Nat → Nat) : Nat → Nat
  | 0 => 0
  | i + 1 => if P i = true then n_sum P x i + x i else n_sum P x i
theorem n_sum_le {P : Nat → Bool} {x : Nat → Nat} {c : Nat} (h : ∀ i, x i ≤ c) (n : Nat) : n_sum P x n ≤ n * c := by
  induction n with
  | zero => exact Nat.zero_le _
  | succ n ih =>
    rw [n_sum, Nat.succ_mul]
    have := h n
    split <;> omega
section LA
variable {d : Nat} {I V : am_V} {L : Nat → Nat → Int64} {R : am_R}
def n_dl (V : am_V) (mm : Nat → Nat) (s a b n : Nat) : Nat := n_dw (am_n V 126 s) (am_n V 127 s) a b + n_sum (fun i => decide (V 114 (s_tn V (mm i)) = V 114 (s_tn V s))) (fun i => n_dw (am_n V 126 (mm i)) (am_n V 127 (mm i)) a b) n
theorem ok_Ru_daysInLand {s n a b : Nat} {mm : Nat → Nat} (hd : 3 ≤ d) (hw : w_rc I V) (hv : Inv V) (hm : w_mn I mm n) (hs : s < 60) (ha : a ≤ 10000) (hb : b ≤ 10000) (h : R (some (.int (nI (n_dl V mm s a b n)))) (am_mk I L, 0, 0)) : am_meth d 106 [.ref 99, .int (nI s), .int (nI a), .int (nI b)] (am_mk I L, 0, 0) R := by
  obtain ⟨d, rfl⟩ : ∃ e, d = e + 1 := ⟨d - 1, by omega⟩
  obtain ⟨q0, q17, q67, q68, q69, q43, q3, q4, qh⟩ := id hw
  have hm2 := hm.2.1
  have ix67 : ∀ j, j < 60 → am_ix I 67 j 20 := fun j hj => by
    unfold am_ix am_n; rw [q67]; exact (hv.2.2.2.1.1 j hj).1
  have n67 : ∀ j, am_n I 67 j = am_n V 125 j := fun j => by unfold am_n; rw [q67]
  have ix43 : ∀ j, j < 60 → am_ix I 43 (am_n I 67 j) 10 := fun j hj => by
    rw [n67]; unfold am_ix am_n; rw [q43]; exact (hv.2.2.1 _ (hv.2.2.2.1.1 j hj).1.2).2.2.2.1
  have la : ∀ j, I 3 (am_n I 43 (am_n I 67 j)) = V 114 (s_tn V j) := fun j => by
    rw [n67, q3]; unfold s_tn am_n; rw [q43]
  have dw : ∀ j, j < 60 → am_dw (I 68 j) (I 69 j) (nI a) (nI b) = nI (n_dw (am_n V 126 j) (am_n V 127 j) a b) := fun j hj => by
    have w := hv.2.2.2.1.1 j hj
    have w1 := w.2.1.2
    have w2 := w.2.2.1.2
    rw [q68, q69, ← dw_nat (by omega) (by omega) ha hb, ← w.2.1.1, ← w.2.2.1.1]
  refine ar_in rfl rfl rfl (r_Rules_daysInLand_0 (by omega) ⟨hs, ix67 s hs, ix43 s hs, hs, ?_⟩)
  rw [la, dw s hs]
  have key := am_up (P := fun i => am_Run am_X0 (am_meth d) 106 R 22 [some (.ref 99), none, some (.int (nI a)), some (.int (nI b)), some (.int (V 114 (s_tn V s))), some (.int (nI (n_dl V mm s a b i))), some (.int (nI i))] [] (am_mk I L, 0, 0)) (n := n) ?_ (fun i hi ih => ?_)
  · exact key
  · exact r_Rules_daysInLand_22 (by omega) ⟨fun c => absurd (hm.1 ▸ c) (nI_nlt (Nat.le_refl _) (by omega)), fun _ => h⟩
  · have w := hm.2.2 i hi
    refine r_Rules_daysInLand_22 (by omega) ⟨fun _ => ⟨by omega, mm i, w.1, w.2, ix67 _ w.2, ix43 _ w.2, ?_⟩, fun c => absurd (by rw [hm.1]; exact nI_lt hi (by omega)) c⟩
    rw [la]
    unfold n_dl at ih ⊢
    refine ⟨fun c => ⟨mm i, w.1, w.2, ?_⟩, fun c => ?_⟩
    · rw [n_sum, if_pos (decide_eq_true c)] at ih
      rw [dw _ w.2, nI_add, Nat.add_assoc]
      exact ih
    · rw [n_sum, if_neg (by rw [decide_eq_false c]; decide)] at ih
      exact ih
end LA
