/-! what does not hang on how many are told -/
def w_41 (V : am_V) : am_V := va_up V 113 (upd (V 113) 41 0)
section J0
variable {V : am_V} {k s : Nat}
theorem meets_41 : s_meets (w_41 V) k s = s_meets V k s := rfl
theorem last_41 {x y : Int32} {n : Nat} : s_last (w_41 V) x y n = s_last V x y n := by
  induction n with
  | zero => rfl
  | succ n ih =>
    show (if (V 128 n = 1 ∧ V 129 n = x) ∧ V 127 n < y then (match s_last (w_41 V) x y n with
      | none => some n
      | some j => if V 127 n ≤ V 127 j then some j else some n) else s_last (w_41 V) x y n) = _
    rw [ih]; rfl
theorem nxt_41 {x y : Int32} {n : Nat} : s_nxt (w_41 V) x y n = s_nxt V x y n := by
  induction n with
  | zero => rfl
  | succ n ih =>
    show (if (V 128 n = 1 ∧ V 129 n = x) ∧ ¬ V 126 n ≤ y then (match s_nxt (w_41 V) x y n with
      | none => some n
      | some j => if V 126 n < V 126 j then some n else some j) else s_nxt (w_41 V) x y n) = _
    rw [ih]; rfl
theorem lat_41 {x : Int32} {n : Nat} : s_lat (w_41 V) x n = s_lat V x n := by
  induction n with
  | zero => rfl
  | succ n ih =>
    show (if V 134 n = x ∧ V 135 n ≤ V 113 0 then (match s_lat (w_41 V) x n with
      | none => some n
      | some j => if V 135 n < V 135 j then some j else some n) else s_lat (w_41 V) x n) = _
    rw [ih]; rfl
theorem visa_41 : s_visa (w_41 V) k s = s_visa V k s := rfl
theorem tr_41 {w x : Int32} : s_tr (w_41 V) w x = s_tr V w x := rfl
theorem kp_41 {p q : Nat} : s_kp (w_41 V) k p q = s_kp V k p q := rfl
theorem prf_41 {p q : Nat} : s_prf (w_41 V) p q = s_prf V p q := rfl
theorem late_41 : s_late (w_41 V) k s = s_late V k s := by
  have e1 : s_lt1 (w_41 V) k s = s_lt1 V k s := by
    unfold s_lt1
    rw [show (w_41 V) 126 s = V 126 s from rfl, show am_n (w_41 V) 113 14 = am_n V 113 14 from rfl, last_41]; rfl
  have e2 : s_lt2 (w_41 V) k s = s_lt2 V k s := by
    unfold s_lt2
    rw [show (w_41 V) 127 s = V 127 s from rfl, show am_n (w_41 V) 113 14 = am_n V 113 14 from rfl, nxt_41]; rfl
  unfold s_late
  rw [e1, e2]
theorem wd_41 : s_wd (w_41 V) k s = s_wd V k s := by
  unfold s_wd
  rw [meets_41, late_41, visa_41]
theorem tw_41 : s_tw (w_41 V) k = s_tw V k := rfl
theorem let_41 : s_let (w_41 V) k s = s_let V k s := by
  have e0 : (w_41 V) 113 0 = V 113 0 := rfl
  have e1 : (w_41 V) 119 = V 119 := rfl
  have e2 : (w_41 V) 123 = V 123 := rfl
  have e3 : (w_41 V) 125 = V 125 := rfl
  have e4 : (w_41 V) 126 = V 126 := rfl
  have e5 : (w_41 V) 127 = V 127 := rfl
  have e6 : (w_41 V) 114 = V 114 := rfl
  have e7 : s_tn (w_41 V) s = s_tn V s := rfl
  have e8 : am_n (w_41 V) 125 s = am_n V 125 s := rfl
  have e9 : s_kw (w_41 V) (nI k) (V 113 0) = s_kw V (nI k) (V 113 0) := rfl
  funext j
  unfold s_let
  rw [e0, e1, e2, e3, e4, e5, e6, e7, e8, tw_41, tr_41, e9]
theorem worth_41 : s_worth (w_41 V) k s = s_worth V k s := by
  have ef : s_frc (w_41 V) (V 125 s) = s_frc V (V 125 s) := by
    unfold s_frc
    rw [show am_n (w_41 V) 113 25 = am_n V 113 25 from rfl, lat_41, lat_41]
  unfold s_worth
  rw [show (w_41 V) 125 s = V 125 s from rfl, ef]
  cases s_frc V (V 125 s) with
  | none => rfl
  | some t =>
    simp only []
    unfold s_val
    rw [let_41, show w_T (w_41 V) t = w_T V t from rfl, show am_n (w_41 V) 136 t = am_n V 136 t from rfl]
theorem why_41 : s_why (w_41 V) k s = s_why V k s := by
  have e0 : (w_41 V) 113 0 = V 113 0 := rfl
  have e1 : (w_41 V) 128 = V 128 := rfl
  have e2 : (w_41 V) 126 = V 126 := rfl
  have e3 : (w_41 V) 123 = V 123 := rfl
  have e4 : am_n (w_41 V) 125 s = am_n V 125 s := rfl
  have e5 : (w_41 V) 118 = V 118 := rfl
  unfold s_why
  rw [wd_41, worth_41, e0, e1, e2, e3, e4, e5]
theorem M_41 {p : Nat} : s_M (w_41 V) k p = s_M V k p := by
  unfold s_M
  rw [show s_rw (w_41 V) p = s_rw V p from rfl, why_41]; rfl
end J0
/-! the verdict -/
def s_f1st (S : Nat → Bool) : Nat → Option Nat
  | 0 => none
  | n + 1 => match s_f1st S n with
    | some p => some p
    | none => if S n = true then some n else none
theorem fd_none {S : Nat → Bool} {n : Nat} (h : s_f1st S n = none) : ∀ p, p < n → S p = false := by
  induction n with
  | zero => exact fun p hp => absurd hp (Nat.not_lt_zero p)
  | succ n ih =>
    unfold s_f1st at h
    cases e : s_f1st S n with
    | some p => rw [e] at h; cases h
    | none =>
      rw [e] at h
      simp only [] at h
      intro p hp
      by_cases q : p = n
      · subst q
        rcases w : S p with _ | _
        · rfl
        · rw [if_pos w] at h; cases h
      · exact ih e p (by omega)
theorem fd_up {S : Nat → Bool} {n : Nat} (h : s_f1st S n = none) (hn : S n = false) : s_f1st S (n + 1) = none := by
  unfold s_f1st
  rw [h]
  simp only []
  rw [if_neg (by rw [hn]; decide)]
theorem fd_of {S : Nat → Bool} {p : Nat} (h : s_f1st S p = none) (hp : S p = true) : ∀ n, p < n → s_f1st S n = some p
  | 0, hn => absurd hn (Nat.not_lt_zero p)
  | n + 1, hn => by
    unfold s_f1st
    by_cases q : p = n
    · subst q
      rw [h]; simp only []
      rw [if_pos hp]
    · rw [fd_of h hp n (by omega)]
theorem fd_fst {f : Nat → Int32} {x : Int32} {n v : Nat} (h : w_fst f x n v) : s_f1st (fun q => decide (f q = x)) n = if v < n then some v else none := by
  have h0 : ∀ m, m ≤ v → s_f1st (fun q => decide (f q = x)) m = none := by
    intro m
    induction m with
    | zero => exact fun _ => rfl
    | succ m ih => exact fun hm => fd_up (ih (by omega)) (decide_eq_false (h.1 m (by omega)))
  by_cases q : v < n
  · rw [if_pos q]
    exact fd_of (h0 v (Nat.le_refl _)) (decide_eq_true (h.2.2 q)) n q
  · rw [if_neg q]
    have := h.2.1
    rw [show n = v from by omega]
    exact h0 v (Nat.le_refl _)
def s_wr (V : am_V) (p : Nat) : Bool := !decide (V 147 p = -1) && (!decide (0 ≤ V 147 p ∧ V 147 p < V 113 4) || (!s_M V (am_n V 147 p) p || s_any (fun q => decide (V 147 q = V 147 p)) p))
def s_rh (V : am_V) (k p : Nat) : Bool := match s_f1st (fun q => decide (V 147 q = nI k)) (s_rl V) with
  | none => true
  | some q => s_kp V k p q
def s_ph (V : am_V) (k p : Nat) : Bool := decide (V 147 p = -1) || s_prf V k (am_n V 147 p)
def s_un2 (V : am_V) (p k : Nat) : Bool := !decide (V 147 p = nI k) && (s_M V k p && (s_ph V k p && s_rh V k p))
def s_unr (V : am_V) (p : Nat) : Bool := s_any (s_un2 V p) (am_n V 113 4)
def s_ver (V : am_V) : Int32 := match s_f1st (s_wr V) (s_rl V) with
  | some p => nI p
  | none => match s_f1st (s_unr V) (s_rl V) with
    | some p => 20 + nI p
    | none => -9
theorem ver_41 {V : am_V} : s_ver (w_41 V) = s_ver V := by
  have e1 : s_wr (w_41 V) = s_wr V := by
    funext p
    unfold s_wr
    rw [show (w_41 V) 147 = V 147 from rfl, show am_n (w_41 V) 147 p = am_n V 147 p from rfl, M_41]; rfl
  have e3 : ∀ p, s_un2 (w_41 V) p = s_un2 V p := by
    intro p
    funext k
    unfold s_un2
    rw [M_41]; rfl
  have e2 : s_unr (w_41 V) = s_unr V := by
    funext p
    unfold s_unr
    rw [e3]; rfl
  unfold s_ver
  rw [e1, e2]; rfl
/-- all that is told is nobody, or a keeper -/
def w_tv (V : am_V) : Prop := ∀ p, p < s_rl V → V 147 p = -1 ∨ ∃ q, q < am_n V 113 4 ∧ V 147 p = nI q
theorem tv_of {V : am_V} (hv : Inv V) (h : s_f1st (s_wr V) (s_rl V) = none) : w_tv V := by
  intro p hp
  have := fd_none h p hp
  unfold s_wr at this
  by_cases e : V 147 p = -1
  · exact Or.inl e
  · right
    rw [decide_eq_false e, Bool.not_false, Bool.true_and, Bool.or_eq_false_iff] at this
    by_cases c : 0 ≤ V 147 p ∧ V 147 p < V 113 4
    · obtain ⟨j, j1, j2, j3⟩ := ix_k hv c
      exact ⟨j, j3, j2⟩
    · rw [decide_eq_false c] at this; exact absurd this.1 (by decide)
