/-! windows: of all spans of 180 days none has more than the fullest that begins with a stay -/
theorem cnt_lip {f : Nat → Bool} {a b : Nat} (h : a ≤ b) : s_cnt f b ≤ s_cnt f a + (b - a) := by
  induction b with
  | zero => have : a = 0 := by omega
            subst this; omega
  | succ b ih =>
    by_cases e : a = b + 1
    · subst e; omega
    · have := ih (by omega)
      rw [s_cnt]; split <;> omega
theorem cnt_all {f : Nat → Bool} {a b : Nat} (h : a ≤ b) (hf : ∀ x, a ≤ x → x < b → f x = true) : s_cnt f b = s_cnt f a + (b - a) := by
  induction b with
  | zero => have : a = 0 := by omega
            subst this; omega
  | succ b ih =>
    by_cases e : a = b + 1
    · subst e; omega
    · have := ih (by omega) (fun x h1 h2 => hf x h1 (by omega))
      rw [cnt_t (hf b (by omega) (by omega))]; omega
theorem cnt_fst {f : Nat → Bool} {a b : Nat} (h : s_cnt f a < s_cnt f b) (hab : a ≤ b) : ∃ y, a ≤ y ∧ y < b ∧ f y = true ∧ s_cnt f y = s_cnt f a := by
  induction b with
  | zero => have : a = 0 := by omega
            subst this; omega
  | succ b ih =>
    by_cases e : a = b + 1
    · subst e; omega
    · by_cases c : s_cnt f a < s_cnt f b
      · obtain ⟨y, h1, h2, h3, h4⟩ := ih c (by omega)
        exact ⟨y, h1, by omega, h3, h4⟩
      · have u := cnt_up (f := f) (a := a) (b := b) (by omega)
        refine ⟨b, by omega, by omega, ?_, by omega⟩
        apply Decidable.byContradiction
        intro q
        rw [cnt_f q] at h
        omega
theorem cnt_con {f : Nat → Bool} {a b : Nat} (h : a ≤ b) (hf : ∀ x, a ≤ x → f x = false) : s_cnt f b = s_cnt f a := by
  induction b with
  | zero => have : a = 0 := by omega
            subst this; rfl
  | succ b ih =>
    by_cases e : a = b + 1
    · subst e; rfl
    · rw [cnt_f (by rw [hf b (by omega)]; decide)]
      exact ih (by omega)
/-- the stays that make f up: starts st; each spent day lies in one, from its start on all spent -/
theorem win_iff {f : Nat → Bool} {lim : Nat} {S : Nat → Prop} (hS : ∀ y, f y = true → ∃ a, S a ∧ a ≤ y ∧ ∀ x, a ≤ x → x ≤ y → f x = true) (h1 : ∀ a, S a → a ≤ 1500) (hb : ∀ x, 1501 ≤ x → f x = false) : (∃ x, x < 1501 ∧ lim < s_win f (x + 1)) ↔ ∃ a, S a ∧ lim < s_cnt f (a + 180) - s_cnt f a := by
  unfold s_win
  constructor
  · rintro ⟨x, hx, hw⟩
    have hw2 : s_cnt f (x + 1 - 180) < s_cnt f (x + 1) := by omega
    obtain ⟨y, g1, g2, g3, g4⟩ := cnt_fst hw2 (by omega)
    obtain ⟨a, sa, a1, a2⟩ := hS y g3
    refine ⟨a, sa, ?_⟩
    by_cases c : x + 1 - 180 ≤ a
    · have u1 := cnt_up (f := f) (a := x + 1) (b := a + 180) (by omega)
      have u2 := cnt_up (f := f) (a := a) (b := y) a1
      omega
    · have e := cnt_all (f := f) (a := a) (b := x + 1 - 180) (by omega) (fun z z1 z2 => a2 z z1 (by omega))
      by_cases c2 : a + 180 ≤ x + 1
      · have l := cnt_lip (f := f) (a := a + 180) (b := x + 1) c2
        omega
      · have u1 := cnt_up (f := f) (a := x + 1) (b := a + 180) (by omega)
        omega
  · rintro ⟨a, sa, hw⟩
    have a0 := h1 a sa
    by_cases c : a + 180 ≤ 1501
    · refine ⟨a + 179, by omega, ?_⟩
      rw [show a + 179 + 1 - 180 = a from by omega]
      exact hw
    · refine ⟨1500, by omega, ?_⟩
      have e := cnt_con (f := f) (a := 1501) (b := a + 180) (by omega) hb
      have u := cnt_up (f := f) (a := 1500 + 1 - 180) (b := a) (by omega)
      rw [e] at hw
      show lim < s_cnt f 1501 - s_cnt f (1500 + 1 - 180)
      omega
/-! sums of stays' days are the spent days -/
def n_cv (f t : Nat) (x : Nat) : Bool := decide (f ≤ x ∧ x ≤ t)
theorem cv_cnt {f t : Nat} (x : Nat) : s_cnt (n_cv f t) x = (if x < t + 1 then x else t + 1) - f := by
  induction x with
  | zero => show 0 = _; split <;> omega
  | succ x ih =>
    by_cases c : n_cv f t x = true
    · rw [cnt_t c, ih]
      have := decide_eq_true_iff.mp c
      split <;> split <;> omega
    · rw [cnt_f c, ih]
      have : ¬ (f ≤ x ∧ x ≤ t) := fun q => c (decide_eq_true_iff.mpr q)
      split <;> split <;> omega
theorem dw_cnt {f t a b : Nat} (h : a ≤ b + 1) (hft : f ≤ t) : n_dw f t a b = s_cnt (n_cv f t) (b + 1) - s_cnt (n_cv f t) a := by
  rw [cv_cnt, cv_cnt]
  unfold n_dw
  split <;> split <;> split <;> split <;> omega
theorem n_sum_add {P : Nat → Bool} {x y : Nat → Nat} (n : Nat) : n_sum P (fun i => x i + y i) n = n_sum P x n + n_sum P y n := by
  induction n with
  | zero => rfl
  | succ n ih =>
    rw [n_sum, n_sum, n_sum, ih]
    split <;> omega
theorem n_sum_sub {P : Nat → Bool} {x y : Nat → Nat} (n : Nat) (h : ∀ i, i < n → y i ≤ x i) : n_sum P (fun i => x i - y i) n = n_sum P x n - n_sum P y n ∧ n_sum P y n ≤ n_sum P x n := by
  induction n with
  | zero => exact ⟨rfl, Nat.le_refl _⟩
  | succ n ih =>
    have i := ih (fun i hi => h i (by omega))
    have hn := h n (by omega)
    rw [n_sum, n_sum, n_sum, i.1]
    have i2 := i.2
    split <;> omega
theorem n_sum_congr {P : Nat → Bool} {x y : Nat → Nat} (n : Nat) (h : ∀ i, i < n → x i = y i) : n_sum P x n = n_sum P y n := by
  induction n with
  | zero => rfl
  | succ n ih => rw [n_sum, n_sum, ih (fun i hi => h i (by omega)), h n (by omega)]
/-- at most one of them has the day -/
theorem n_sum_one {P c : Nat → Bool} (n : Nat) (h : ∀ i j, i < n → j < n → P i = true → P j = true → c i = true → c j = true → i = j) : n_sum P (fun i => if c i = true then 1 else 0) n = if s_any (fun i => P i && c i) n = true then 1 else 0 := by
  induction n with
  | zero => rfl
  | succ n ih =>
    have i := ih (fun i j hi hj => h i j (by omega) (by omega))
    rw [n_sum, i, s_any]
    by_cases p : P n = true
    · by_cases q : c n = true
      · have z : s_any (fun i => P i && c i) n = false := by
          apply Bool.eq_false_iff.mpr
          intro w
          obtain ⟨j, hj, e⟩ := s_any_ex w
          obtain ⟨e1, e2⟩ := Bool.and_eq_true_iff.mp e
          have := h j n (by omega) (by omega) e1 p e2 q
          omega
        rw [if_pos p, z, p, q]; rfl
      · rw [if_pos p, if_neg q, p, Bool.eq_false_iff.mpr q, Bool.true_and, Bool.or_false]; omega
    · rw [if_neg p, Bool.eq_false_iff.mpr p, Bool.false_and, Bool.or_false]
theorem cnt_sum {P : Nat → Bool} {g : Nat → Nat → Bool} {f0 f : Nat → Bool} {n : Nat} (h : ∀ x, (if f x = true then 1 else 0) = (if f0 x = true then 1 else 0) + n_sum P (fun i => if g i x = true then 1 else 0) n) (x : Nat) : s_cnt f x = s_cnt f0 x + n_sum P (fun i => s_cnt (g i) x) n := by
  induction x with
  | zero =>
    have : n_sum P (fun i => s_cnt (g i) 0) n = 0 := by
      clear h
      induction n with
      | zero => rfl
      | succ n ih => rw [n_sum, ih]; split <;> rfl
    rw [this]; rfl
  | succ x ih =>
    have e : ∀ (u : Nat → Bool), s_cnt u (x + 1) = s_cnt u x + (if u x = true then 1 else 0) := fun u => by rw [s_cnt]; split <;> rfl
    have e2 : n_sum P (fun i => s_cnt (g i) (x + 1)) n = n_sum P (fun i => s_cnt (g i) x) n + n_sum P (fun i => if g i x = true then 1 else 0) n := by
      rw [← n_sum_add]
      exact n_sum_congr n (fun i _ => e (g i))
    rw [e f, e f0, e2, ih, h x]; omega
