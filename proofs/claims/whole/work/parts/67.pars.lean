/-! bounds of the parse -/
def w_tl (T : Nat → Int32) (n : Nat) : Prop := ∀ i, n ≤ i → T i = -1
theorem tl_lt {T : Nat → Int32} {n i : Nat} (h : w_tl T n) (hc : ¬ T i = -1) : i < n := by
  rcases Nat.lt_or_ge i n with q | q
  · exact q
  · exact absurd (h i q) hc
theorem dig_e {x : Int32} (h : p_dig x = true) : ∃ g, g ≤ 9 ∧ x = nI (48 + g) := by
  unfold p_dig at h
  rw [Bool.and_eq_true_iff, decide_eq_true_iff, decide_eq_true_iff] at h
  obtain ⟨j, hj, rfl⟩ := am_nat (x := x) (m := 58) ⟨by (simp (disch := omega) only [Int32.lt_iff_toInt_lt, Int32.le_iff_toInt_le, ← Int32.toInt_inj, Int32.reduceToInt, nI_toInt] at *; omega), by rw [show nI 58 = (58 : Int32) from rfl]; (simp (disch := omega) only [Int32.lt_iff_toInt_lt, Int32.le_iff_toInt_le, ← Int32.toInt_inj, Int32.reduceToInt, nI_toInt] at *; omega)⟩ (by decide)
  refine ⟨j - 48, by omega, ?_⟩
  have := h.1
  rw [show (48 : Int32) = nI 48 from rfl, nI_leI (by decide) (by omega)] at this
  rw [show 48 + (j - 48) = j from by omega]
theorem dig_n {x : Int32} (h : p_dig x = true) : ¬ x = -1 ∧ ¬ x = 40 ∧ ¬ x = 41 ∧ ¬ x = 42 ∧ ¬ x = 47 ∧ ¬ x = 43 ∧ ¬ x = 45 ∧ ¬ x = 60 ∧ ¬ x = 61 ∧ ¬ x = 62 ∧ p_let x = none := by
  obtain ⟨g, hg, rfl⟩ := dig_e h
  have : g < 10 := by omega
  clear h hg
  revert g
  decide
theorem let_n {x : Int32} {j : Nat} (h : p_let x = some j) : ¬ x = -1 ∧ ¬ x = 40 ∧ ¬ x = 41 ∧ ¬ x = 42 ∧ ¬ x = 47 ∧ ¬ x = 43 ∧ ¬ x = 45 ∧ ¬ x = 60 ∧ ¬ x = 61 ∧ ¬ x = 62 ∧ p_dig x = false := by
  obtain ⟨hj, rfl⟩ := let_some h
  clear h
  revert j
  decide
def w_ub (n i : Nat) : p_R → Prop
  | .inl x => i ≤ x ∧ x ≤ n
  | .inr q => i < q.1 ∧ q.1 ≤ n ∧ q.2.length + i ≤ q.1
def w_lb (n i m : Nat) : p_R → Prop
  | .inl x => i ≤ x ∧ x ≤ n
  | .inr q => i ≤ q.1 ∧ q.1 ≤ n ∧ q.2.length + i ≤ m + q.1
section PB
variable {T : Nat → Int32} {n : Nat} {br : Nat → p_R}
theorem num_b (hT : w_tl T n) : ∀ f i a, i ≤ n → i ≤ (p_num T f i a).1 ∧ (p_num T f i a).1 ≤ n
  | 0, i, a, h => ⟨Nat.le_refl _, h⟩
  | f + 1, i, a, h => by
    unfold p_num
    split
    · rename_i c
      have := tl_lt hT (dig_n c).1
      have ih := num_b hT f (i + 1) (a * 10 + T i - 48) (by omega)
      exact ⟨by omega, ih.2⟩
    · exact ⟨Nat.le_refl _, h⟩
theorem num_b1 (hT : w_tl T n) {f i : Nat} {a : Int32} (h : p_dig (T i) = true) : i + 1 ≤ (p_num T (f + 1) i a).1 ∧ (p_num T (f + 1) i a).1 ≤ n := by
  have := tl_lt hT (dig_n h).1
  rw [p_num, if_pos h]
  exact num_b hT f (i + 1) _ (by omega)
theorem unit_b (hT : w_tl T n) (hb : ∀ i, i < n → T i = 40 → w_ub n i (br i)) {i : Nat} (hi : i ≤ n) : w_ub n i (p_unit T br i) := by
  unfold p_unit
  split
  · rename_i c
    have : i + 1 ≤ (p_num T 5 i 0).1 ∧ (p_num T 5 i 0).1 ≤ n := num_b1 hT (f := 4) (a := 0) c
    exact ⟨this.1, this.2, by simp only [List.length_cons, List.length_nil]; omega⟩
  · split
    · rename_i c
      exact hb i (tl_lt hT (by rw [c]; decide)) c
    · split
      · rename_i j e
        have := tl_lt hT (let_n e).1
        exact ⟨by simp only []; omega, by simp only []; omega, by simp only [List.length_cons, List.length_nil]; omega⟩
      · exact ⟨Nat.le_refl _, hi⟩
theorem pl_b (hT : w_tl T n) (hb : ∀ i, i < n → T i = 40 → w_ub n i (br i)) : ∀ f i c, i ≤ n → w_lb n i c.length (p_pl T br f i c)
  | 0, i, c, h => ⟨Nat.le_refl _, h, Nat.le_refl _⟩
  | f + 1, i, c, h => by
    unfold p_pl
    split
    · rename_i s
      have hi : i < n := tl_lt hT (by rcases s with s | s <;> rw [s] <;> decide)
      have u := unit_b hT hb (i := i + 1) (by omega)
      cases e : p_unit T br (i + 1) with
      | inl x => rw [e] at u; exact ⟨Nat.le_trans (by omega) u.1, u.2⟩
      | inr q =>
        rw [e] at u
        obtain ⟨u1, u2, u3⟩ := u
        have ih := pl_b hT hb f q.1 (c ++ q.2 ++ [-(T i)]) u2
        simp only []
        revert ih
        cases p_pl T br f q.1 (c ++ q.2 ++ [-(T i)]) with
        | inl x => exact fun ih => ⟨Nat.le_trans (by omega) ih.1, ih.2⟩
        | inr r =>
          rintro ⟨a1, a2, a3⟩
          simp only [List.length_append, List.length_cons, List.length_nil] at a3
          exact ⟨by omega, a2, by omega⟩
    · exact ⟨Nat.le_refl _, h, Nat.le_refl _⟩
theorem prod_b (hT : w_tl T n) (hb : ∀ i, i < n → T i = 40 → w_ub n i (br i)) {i : Nat} (hi : i ≤ n) : w_ub n i (p_prod T br i) := by
  unfold p_prod
  have u := unit_b hT hb hi
  cases e : p_unit T br i with
  | inl x => rw [e] at u; exact u
  | inr q =>
    rw [e] at u
    obtain ⟨u1, u2, u3⟩ := u
    have ih := pl_b hT hb 60 q.1 q.2 u2
    simp only []
    revert ih
    cases p_pl T br 60 q.1 q.2 with
    | inl x => exact fun ih => ⟨Nat.le_trans (by omega) ih.1, ih.2⟩
    | inr r =>
      rintro ⟨a1, a2, a3⟩
      exact ⟨by omega, a2, by omega⟩
theorem sl_b (hT : w_tl T n) (hb : ∀ i, i < n → T i = 40 → w_ub n i (br i)) : ∀ f i c, i ≤ n → w_lb n i c.length (p_sl T br f i c)
  | 0, i, c, h => ⟨Nat.le_refl _, h, Nat.le_refl _⟩
  | f + 1, i, c, h => by
    unfold p_sl
    split
    · rename_i s
      have hi : i < n := tl_lt hT (by rcases s with s | s <;> rw [s] <;> decide)
      have u := prod_b hT hb (i := i + 1) (by omega)
      cases e : p_prod T br (i + 1) with
      | inl x => rw [e] at u; exact ⟨Nat.le_trans (by omega) u.1, u.2⟩
      | inr q =>
        rw [e] at u
        obtain ⟨u1, u2, u3⟩ := u
        have ih := sl_b hT hb f q.1 (c ++ q.2 ++ [-(T i)]) u2
        simp only []
        revert ih
        cases p_sl T br f q.1 (c ++ q.2 ++ [-(T i)]) with
        | inl x => exact fun ih => ⟨Nat.le_trans (by omega) ih.1, ih.2⟩
        | inr r =>
          rintro ⟨a1, a2, a3⟩
          simp only [List.length_append, List.length_cons, List.length_nil] at a3
          exact ⟨by omega, a2, by omega⟩
    · exact ⟨Nat.le_refl _, h, Nat.le_refl _⟩
theorem sum_b (hT : w_tl T n) (hb : ∀ i, i < n → T i = 40 → w_ub n i (br i)) {i : Nat} (hi : i ≤ n) : w_ub n i (p_sum T br i) := by
  unfold p_sum
  have u := prod_b hT hb hi
  cases e : p_prod T br i with
  | inl x => rw [e] at u; exact u
  | inr q =>
    rw [e] at u
    obtain ⟨u1, u2, u3⟩ := u
    have ih := sl_b hT hb 60 q.1 q.2 u2
    simp only []
    revert ih
    cases p_sl T br 60 q.1 q.2 with
    | inl x => exact fun ih => ⟨Nat.le_trans (by omega) ih.1, ih.2⟩
    | inr r =>
      rintro ⟨a1, a2, a3⟩
      exact ⟨by omega, a2, by omega⟩
theorem br_b (hT : w_tl T n) : ∀ m i, i < n → T i = 40 → w_ub n i (p_br T m i)
  | 0, i, h, _ => ⟨Nat.le_refl _, by omega⟩
  | m + 1, i, h, h40 => by
    unfold p_br
    have hb := fun j hj h => br_b hT m j hj h
    have u := sum_b hT hb (i := i + 1) (by omega)
    cases e : p_sum T (p_br T m) (i + 1) with
    | inl x => rw [e] at u; exact ⟨Nat.le_trans (by omega) u.1, u.2⟩
    | inr q =>
      rw [e] at u
      obtain ⟨u1, u2, u3⟩ := u
      simp only []
      split
      · rename_i s
        have hq : q.1 < n := tl_lt hT (by rcases s with s | s | s <;> rw [s] <;> decide)
        have u' := sum_b hT hb (i := q.1 + 1) (by omega)
        cases e' : p_sum T (p_br T m) (q.1 + 1) with
        | inl x => rw [e'] at u'; exact ⟨Nat.le_trans (by omega) u'.1, u'.2⟩
        | inr r =>
          rw [e'] at u'
          obtain ⟨v1, v2, v3⟩ := u'
          simp only []
          split
          · rename_i s2
            have hr : r.1 < n := tl_lt hT (by rw [s2]; decide)
            refine ⟨by simp only []; omega, by simp only []; omega, ?_⟩
            simp only [List.length_append, List.length_cons, List.length_nil]; omega
          · exact ⟨by omega, v2⟩
      · split
        · rename_i s2
          have hr : q.1 < n := tl_lt hT (by rw [s2]; decide)
          exact ⟨by simp only []; omega, by simp only []; omega, by simp only []; omega⟩
        · exact ⟨by omega, u2⟩
/-- where a product, a sum has ended -/
theorem pl_end (hT : w_tl T n) (h60 : n ≤ 60) (hb : ∀ i, i < n → T i = 40 → w_ub n i (br i)) : ∀ f i c q, i ≤ n → 60 < i + f → p_pl T br f i c = .inr q → ¬ (T q.1 = 42 ∨ T q.1 = 47)
  | 0, i, c, q, h, hf, _ => by omega
  | f + 1, i, c, q, h, hf, e => by
    unfold p_pl at e
    split at e
    · rename_i s
      have hi : i < n := tl_lt hT (by rcases s with s | s <;> rw [s] <;> decide)
      have u := unit_b hT hb (i := i + 1) (by omega)
      cases e2 : p_unit T br (i + 1) with
      | inl x => rw [e2] at e; cases e
      | inr r =>
        rw [e2] at u e
        obtain ⟨u1, u2, u3⟩ := u
        exact pl_end hT h60 hb f r.1 _ q u2 (by omega) e
    · rename_i s
      cases e; exact s
theorem prod_end (hT : w_tl T n) (h60 : n ≤ 60) (hb : ∀ i, i < n → T i = 40 → w_ub n i (br i)) {i : Nat} {q : Nat × List Int32} (hi : i ≤ n) (e : p_prod T br i = .inr q) : ¬ (T q.1 = 42 ∨ T q.1 = 47) := by
  unfold p_prod at e
  have u := unit_b hT hb hi
  cases e2 : p_unit T br i with
  | inl x => rw [e2] at e; cases e
  | inr r =>
    rw [e2] at u e
    obtain ⟨u1, u2, u3⟩ := u
    exact pl_end hT h60 hb 60 r.1 _ q u2 (by omega) e
theorem sl_end (hT : w_tl T n) (h60 : n ≤ 60) (hb : ∀ i, i < n → T i = 40 → w_ub n i (br i)) : ∀ f i c q, i ≤ n → 60 < i + f → ¬ (T i = 42 ∨ T i = 47) → p_sl T br f i c = .inr q → ¬ ((T q.1 = 43 ∨ T q.1 = 45) ∨ T q.1 = 42 ∨ T q.1 = 47)
  | 0, i, c, q, h, hf, _, _ => by omega
  | f + 1, i, c, q, h, hf, h2, e => by
    unfold p_sl at e
    split at e
    · rename_i s
      have hi : i < n := tl_lt hT (by rcases s with s | s <;> rw [s] <;> decide)
      have u := prod_b hT hb (i := i + 1) (by omega)
      cases e2 : p_prod T br (i + 1) with
      | inl x => rw [e2] at e; cases e
      | inr r =>
        have pe := prod_end hT h60 hb (by omega) e2
        rw [e2] at u e
        obtain ⟨u1, u2, u3⟩ := u
        exact sl_end hT h60 hb f r.1 _ q u2 (by omega) pe e
    · rename_i s
      cases e
      exact fun w => w.elim s h2
theorem sum_end (hT : w_tl T n) (h60 : n ≤ 60) (hb : ∀ i, i < n → T i = 40 → w_ub n i (br i)) {i : Nat} {q : Nat × List Int32} (hi : i ≤ n) (e : p_sum T br i = .inr q) : ¬ ((T q.1 = 43 ∨ T q.1 = 45) ∨ T q.1 = 42 ∨ T q.1 = 47) := by
  unfold p_sum at e
  have u := prod_b hT hb hi
  cases e2 : p_prod T br i with
  | inl x => rw [e2] at e; cases e
  | inr r =>
    have pe := prod_end hT h60 hb hi e2
    rw [e2] at u e
    obtain ⟨u1, u2, u3⟩ := u
    exact sl_end hT h60 hb 60 r.1 _ q u2 (by omega) pe e
/-- no digit behind it: none behind its parts -/
theorem pl_dig : ∀ f i c q, p_pl T br f i c = .inr q → p_dig (T q.1) = false → p_dig (T i) = false
  | 0, i, c, q, e, h => by cases e; exact h
  | f + 1, i, c, q, e, h => by
    unfold p_pl at e
    split at e
    · rename_i s
      rcases s with s | s <;> rw [s] <;> decide
    · cases e; exact h
theorem sl_dig : ∀ f i c q, p_sl T br f i c = .inr q → p_dig (T q.1) = false → p_dig (T i) = false
  | 0, i, c, q, e, h => by cases e; exact h
  | f + 1, i, c, q, e, h => by
    unfold p_sl at e
    split at e
    · rename_i s
      rcases s with s | s <;> rw [s] <;> decide
    · cases e; exact h
end PB
