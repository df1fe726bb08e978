/-! places: fillings of a row, what they cost, the cheapest -/
abbrev t_A : Type := Nat → Option Nat
def t_va (A : Nat → Nat → Bool) (n r : Nat) (a : t_A) : Prop := (∀ p k, a p = some k → p < r ∧ k < n ∧ A k p = true) ∧ ∀ p q k, a p = some k → a q = some k → p = q
def t_s (f : Nat → Option Nat → Nat) (a : t_A) : Nat → Nat
  | 0 => 0
  | p + 1 => t_s f a p + f p (a p)
def t_c (c : Nat → Nat → Nat) (p : Nat) : Option Nat → Nat
  | none => 0
  | some k => c k p
def t_1 (_ : Nat) : Option Nat → Nat
  | none => 0
  | some _ => 1
def t_dm (a : t_A) (m r : Nat) : Prop := ∀ p, p < r → (a p).isSome = m.testBit p
def t_m (P : Nat → Bool) (f : Nat → Nat) (v : Nat) : Nat → Nat
  | 0 => v
  | p + 1 => if P p = true then (if f p < t_m P f v p then f p else t_m P f v p) else t_m P f v p
def t_L (c : Nat → Nat → Nat) (A : Nat → Nat → Bool) (r U : Nat) : Nat → Nat → Nat
  | 0, m => if m = 0 then 0 else U
  | K + 1, m => t_m (fun p => A K p && m.testBit p) (fun p => t_L c A r U K (m ^^^ 2 ^ p) + c K p) (t_L c A r U K m) r
def t_up (a : t_A) (p : Nat) (o : Option Nat) : t_A := fun y => if y = p then o else a y
theorem t_m_v {P : Nat → Bool} {f : Nat → Nat} {v : Nat} : ∀ r, t_m P f v r ≤ v
  | 0 => Nat.le_refl _
  | r + 1 => by
    have := t_m_v (P := P) (f := f) (v := v) r
    unfold t_m
    split
    · split <;> omega
    · exact this
theorem t_m_f {P : Nat → Bool} {f : Nat → Nat} {v p : Nat} : ∀ r, p < r → P p = true → t_m P f v r ≤ f p
  | 0, h, _ => absurd h (Nat.not_lt_zero p)
  | r + 1, h, hp => by
    unfold t_m
    by_cases e : p = r
    · subst e
      rw [if_pos hp]
      split <;> omega
    · have := t_m_f (P := P) (f := f) (v := v) r (by omega) hp
      split
      · split <;> omega
      · exact this
theorem t_m_or {P : Nat → Bool} {f : Nat → Nat} {v : Nat} : ∀ r, t_m P f v r = v ∨ ∃ p, p < r ∧ P p = true ∧ t_m P f v r = f p
  | 0 => Or.inl rfl
  | r + 1 => by
    have ih := t_m_or (P := P) (f := f) (v := v) r
    unfold t_m
    by_cases c : P r = true
    · rw [if_pos c]
      by_cases c2 : f r < t_m P f v r
      · rw [if_pos c2]; exact Or.inr ⟨r, by omega, c, rfl⟩
      · rw [if_neg c2]
        rcases ih with e | ⟨p, h1, h2, h3⟩
        · exact Or.inl e
        · exact Or.inr ⟨p, by omega, h2, h3⟩
    · rw [if_neg c]
      rcases ih with e | ⟨p, h1, h2, h3⟩
      · exact Or.inl e
      · exact Or.inr ⟨p, by omega, h2, h3⟩
theorem t_s_cg {f : Nat → Option Nat → Nat} {a b : t_A} : ∀ r, (∀ p, p < r → a p = b p) → t_s f a r = t_s f b r
  | 0, _ => rfl
  | r + 1, h => by
    show t_s f a r + f r (a r) = t_s f b r + f r (b r)
    rw [t_s_cg r (fun p hp => h p (by omega)), h r (by omega)]
theorem t_s_up {f : Nat → Option Nat → Nat} {a : t_A} {p : Nat} {o : Option Nat} : ∀ r, p < r → t_s f (t_up a p o) r + f p (a p) = t_s f a r + f p o
  | 0, h => absurd h (Nat.not_lt_zero p)
  | r + 1, h => by
    show t_s f (t_up a p o) r + f r (t_up a p o r) + f p (a p) = t_s f a r + f r (a r) + f p o
    by_cases e : p = r
    · subst e
      rw [t_s_cg (f := f) (a := t_up a p o) (b := a) p (fun q hq => if_neg (show ¬ q = p by omega)), show t_up a p o p = o from if_pos rfl]
      omega
    · have := t_s_up (f := f) (a := a) (p := p) (o := o) r (by omega)
      rw [show t_up a p o r = a r from if_neg (by omega)]
      omega
theorem xr_bt {m p b : Nat} : (m ^^^ 2 ^ p).testBit b = (m.testBit b ^^ decide (p = b)) := by rw [Nat.testBit_xor, Nat.testBit_two_pow]
section PL
variable {c : Nat → Nat → Nat} {A : Nat → Nat → Bool} {r U : Nat}
theorem t_le : ∀ K m (a : t_A), t_va A K r a → t_dm a m r → m < 2 ^ r → t_L c A r U K m ≤ t_s (t_c c) a r
  | 0, m, a, hv, hd, hm => by
    have e : m = 0 := Nat.eq_of_testBit_eq (fun p => by
      rw [Nat.zero_testBit]
      by_cases q : p < r
      · rw [← hd p q]
        cases h : a p with
        | none => rfl
        | some k => have := (hv.1 p k h).2.1; omega
      · exact Nat.testBit_lt_two_pow (Nat.lt_of_lt_of_le hm (Nat.pow_le_pow_right (by decide) (by omega))))
    show (if m = 0 then 0 else U) ≤ _
    rw [if_pos e]; exact Nat.zero_le _
  | K + 1, m, a, hv, hd, hm => by
    show t_m (fun p => A K p && m.testBit p) (fun p => t_L c A r U K (m ^^^ 2 ^ p) + c K p) (t_L c A r U K m) r ≤ _
    rcases Classical.em (∃ p, a p = some K) with ⟨p, hp⟩ | q
    · obtain ⟨h1, h2, h3⟩ := hv.1 p K hp
      have va : t_va A K r (t_up a p none) := by
        refine ⟨fun y x e => ?_, fun y z x e1 e2 => ?_⟩
        · have e : (if y = p then none else a y) = some x := e
          by_cases w : y = p
          · rw [if_pos w] at e; cases e
          · rw [if_neg w] at e
            obtain ⟨g1, g2, g3⟩ := hv.1 y x e
            refine ⟨g1, ?_, g3⟩
            by_cases z : x = K
            · subst z; exact absurd (hv.2 y p x e hp) w
            · omega
        · have e1 : (if y = p then none else a y) = some x := e1
          have e2 : (if z = p then none else a z) = some x := e2
          by_cases w : y = p
          · rw [if_pos w] at e1; cases e1
          · by_cases w2 : z = p
            · rw [if_pos w2] at e2; cases e2
            · rw [if_neg w] at e1; rw [if_neg w2] at e2
              exact hv.2 y z x e1 e2
      have bp : m.testBit p = true := by rw [← hd p h1, hp]; rfl
      have dm : t_dm (t_up a p none) (m ^^^ 2 ^ p) r := fun y hy => by
        rw [xr_bt]
        by_cases w : p = y
        · subst w
          rw [bp, decide_eq_true rfl, show t_up a p none p = none from if_pos rfl]; rfl
        · rw [decide_eq_false w, Bool.xor_false, ← hd y hy, show t_up a p none y = a y from if_neg (fun z => w z.symm)]
      have lt : m ^^^ 2 ^ p < 2 ^ r := Nat.xor_lt_two_pow hm (Nat.pow_lt_pow_right (by decide) h1)
      have ih := t_le K _ _ va dm lt
      have su := t_s_up (f := t_c c) (a := a) (p := p) (o := none) r h1
      rw [hp] at su
      have su : t_s (t_c c) (t_up a p none) r + c K p = t_s (t_c c) a r + 0 := su
      have := t_m_f (P := fun p => A K p && m.testBit p) (f := fun p => t_L c A r U K (m ^^^ 2 ^ p) + c K p) (v := t_L c A r U K m) r h1 (by rw [h3, bp]; rfl)
      omega
    · have va : t_va A K r a := ⟨fun y x e => by
        obtain ⟨g1, g2, g3⟩ := hv.1 y x e
        refine ⟨g1, ?_, g3⟩
        by_cases z : x = K
        · subst z; exact absurd ⟨y, e⟩ q
        · omega, hv.2⟩
      exact Nat.le_trans (t_m_v r) (t_le K m a va hd hm)
theorem t_at : ∀ K m, m < 2 ^ r → t_L c A r U K m < U → ∃ a, t_va A K r a ∧ t_dm a m r ∧ t_s (t_c c) a r = t_L c A r U K m
  | 0, m, hm, h => by
    have h : (if m = 0 then 0 else U) < U := h
    have e : m = 0 := by
      rcases Nat.eq_zero_or_pos m with w | w
      · exact w
      · rw [if_neg (by omega)] at h; omega
    subst e
    refine ⟨fun _ => none, ⟨fun _ _ e => (by cases e), fun _ _ _ e => (by cases e)⟩, fun p _ => by rw [Nat.zero_testBit]; rfl, ?_⟩
    have : ∀ r, t_s (t_c c) (fun _ => none) r = 0 := by
      intro r
      induction r with
      | zero => rfl
      | succ r ih => show t_s (t_c c) (fun _ => none) r + 0 = 0; rw [ih]
    rw [this]; rfl
  | K + 1, m, hm, h => by
    have h : t_m (fun p => A K p && m.testBit p) (fun p => t_L c A r U K (m ^^^ 2 ^ p) + c K p) (t_L c A r U K m) r < U := h
    have eq : t_L c A r U (K + 1) m = t_m (fun p => A K p && m.testBit p) (fun p => t_L c A r U K (m ^^^ 2 ^ p) + c K p) (t_L c A r U K m) r := rfl
    rw [eq]
    rcases t_m_or (P := fun p => A K p && m.testBit p) (f := fun p => t_L c A r U K (m ^^^ 2 ^ p) + c K p) (v := t_L c A r U K m) r with e | ⟨p, hp, hP, e⟩
    · rw [e] at h ⊢
      obtain ⟨a, a1, a2, a3⟩ := t_at K m hm h
      exact ⟨a, ⟨fun y x e => by obtain ⟨g1, g2, g3⟩ := a1.1 y x e; exact ⟨g1, by omega, g3⟩, a1.2⟩, a2, a3⟩
    · rw [e] at h ⊢
      obtain ⟨hA, bp⟩ := Bool.and_eq_true_iff.mp hP
      have lt : m ^^^ 2 ^ p < 2 ^ r := Nat.xor_lt_two_pow hm (Nat.pow_lt_pow_right (by decide) hp)
      obtain ⟨a, a1, a2, a3⟩ := t_at K _ lt (by omega)
      have an : a p = none := by
        have := a2 p hp
        rw [xr_bt, bp, decide_eq_true rfl] at this
        cases q : a p with
        | none => rfl
        | some k => rw [q] at this; exact Bool.noConfusion (show true = false from this)
      refine ⟨t_up a p (some K), ⟨fun y x e => ?_, fun y z x e1 e2 => ?_⟩, fun y hy => ?_, ?_⟩
      · have e : (if y = p then some K else a y) = some x := e
        by_cases w : y = p
        · rw [if_pos w] at e
          injection e with e
          subst e; subst w
          exact ⟨hp, by omega, hA⟩
        · rw [if_neg w] at e
          obtain ⟨g1, g2, g3⟩ := a1.1 y x e
          exact ⟨g1, by omega, g3⟩
      · have e1 : (if y = p then some K else a y) = some x := e1
        have e2 : (if z = p then some K else a z) = some x := e2
        by_cases w : y = p
        · rw [if_pos w] at e1
          injection e1 with e1
          by_cases w2 : z = p
          · rw [w, w2]
          · rw [if_neg w2] at e2
            have := (a1.1 z x e2).2.1
            omega
        · rw [if_neg w] at e1
          by_cases w2 : z = p
          · rw [if_pos w2] at e2
            injection e2 with e2
            have := (a1.1 y x e1).2.1
            omega
          · rw [if_neg w2] at e2
            exact a1.2 y z x e1 e2
      · by_cases w : y = p
        · subst w
          rw [bp, show t_up a y (some K) y = some K from if_pos rfl]; rfl
        · rw [show t_up a p (some K) y = a y from if_neg w, a2 y hy, xr_bt, decide_eq_false (fun z => w z.symm), Bool.xor_false]
      · have su := t_s_up (f := t_c c) (a := a) (p := p) (o := some K) r hp
        rw [an] at su
        have su : t_s (t_c c) (t_up a p (some K)) r + 0 = t_s (t_c c) a r + c K p := su
        omega
theorem t_big : ∀ K m, ¬ m < 2 ^ r → U ≤ t_L c A r U K m
  | 0, m, h => by
    show U ≤ (if m = 0 then 0 else U)
    have p0 : 0 < 2 ^ r := Nat.pow_pos (by decide)
    rw [if_neg (by omega)]; exact Nat.le_refl _
  | K + 1, m, h => by
    show U ≤ t_m (fun p => A K p && m.testBit p) (fun p => t_L c A r U K (m ^^^ 2 ^ p) + c K p) (t_L c A r U K m) r
    rcases t_m_or (P := fun p => A K p && m.testBit p) (f := fun p => t_L c A r U K (m ^^^ 2 ^ p) + c K p) (v := t_L c A r U K m) r with e | ⟨p, hp, hP, e⟩
    · rw [e]; exact t_big K m h
    · rw [e]
      have := t_big K (m ^^^ 2 ^ p) (fun w => h (by
        have := Nat.xor_lt_two_pow w (Nat.pow_lt_pow_right (a := 2) (by decide) hp)
        rw [Nat.xor_assoc, Nat.xor_self, Nat.xor_zero] at this
        exact this))
      omega
theorem t_U : ∀ K m, t_L c A r U K m ≤ U
  | 0, m => by
    show (if m = 0 then 0 else U) ≤ U
    split <;> omega
  | K + 1, m => Nat.le_trans (t_m_v r) (t_U K m)
/-- the set that a filling fills -/
def t_d (a : t_A) : Nat → Nat
  | 0 => 0
  | p + 1 => if (a p).isSome = true then t_d a p ||| 2 ^ p else t_d a p
theorem t_d_lt {a : t_A} : ∀ r, t_d a r < 2 ^ r
  | 0 => (show 0 < 1 by decide)
  | r + 1 => by
    have := t_d_lt (a := a) r
    have h2 : t_d a r < 2 ^ (r + 1) := Nat.lt_of_lt_of_le this (Nat.pow_le_pow_right (by decide) (by omega))
    unfold t_d
    split
    · exact or_lt h2 (by omega)
    · exact h2
theorem t_d_bt {a : t_A} {p : Nat} : ∀ r, (t_d a r).testBit p = (decide (p < r) && (a p).isSome)
  | 0 => by show (0 : Nat).testBit p = _; rw [Nat.zero_testBit]; rfl
  | r + 1 => by
    have ih := t_d_bt (a := a) (p := p) r
    unfold t_d
    by_cases c : (a r).isSome = true
    · rw [if_pos c, or_bt, ih]
      by_cases e : r = p
      · subst e; rw [decide_eq_true rfl, Bool.or_true, c, decide_eq_true (Nat.lt_succ_self r)]; rfl
      · rw [decide_eq_false e, Bool.or_false]
        congr 2
        apply propext
        omega
    · rw [if_neg c, ih]
      by_cases e : r = p
      · subst e; rw [Bool.eq_false_iff.mpr c, Bool.and_false, Bool.and_false]
      · congr 2
        apply propext
        omega
theorem t_d_dm {a : t_A} : t_dm a (t_d a r) r := fun p hp => by rw [t_d_bt, decide_eq_true hp]; rfl
/-- how many -/
theorem t_pc {a : t_A} {m : Nat} : ∀ r, t_dm a m r → s_cnt (fun p => m.testBit p) r = t_s t_1 a r
  | 0, _ => rfl
  | r + 1, h => by
    have ih := t_pc r (fun p hp => h p (by omega))
    have hr := h r (by omega)
    show s_cnt (fun p => m.testBit p) (r + 1) = t_s t_1 a r + t_1 r (a r)
    cases e : a r with
    | none =>
      rw [e] at hr
      rw [cnt_f (by rw [← hr]; decide), ih]; rfl
    | some k =>
      rw [e] at hr
      rw [cnt_t (by rw [← hr]; rfl), ih]; rfl
theorem t_pc6 {m : Nat} (h6 : r ≤ 6) (hm : m < 2 ^ r) : s_cnt (fun p => m.testBit p) 6 = s_cnt (fun p => m.testBit p) r := by
  have key : ∀ j, r + j ≤ 6 → s_cnt (fun p => m.testBit p) (r + j) = s_cnt (fun p => m.testBit p) r := by
    intro j
    induction j with
    | zero => exact fun _ => rfl
    | succ j ih =>
      intro hj
      have : m.testBit (r + j) = false := Nat.testBit_lt_two_pow (Nat.lt_of_lt_of_le hm (Nat.pow_le_pow_right (by decide) (by omega)))
      rw [show r + (j + 1) = (r + j) + 1 from rfl, cnt_f (by rw [this]; decide), ih (by omega)]
  have := key (6 - r) (by omega)
  rw [show r + (6 - r) = 6 from by omega] at this; exact this
/-- the best of all: many first, then little -/
def t_G (c : Nat → Nat → Nat) (A : Nat → Nat → Bool) (r U n : Nat) : Nat → Nat
  | 0 => 0
  | m + 1 => if t_L c A r U n m < U ∧ t_G c A r U n m < 10000 * s_cnt (fun p => m.testBit p) 6 - t_L c A r U n m then 10000 * s_cnt (fun p => m.testBit p) 6 - t_L c A r U n m else t_G c A r U n m
theorem G_ge {n x : Nat} (hx : t_L c A r U n x < U) : ∀ m, x < m → 10000 * s_cnt (fun p => x.testBit p) 6 - t_L c A r U n x ≤ t_G c A r U n m
  | 0, h => absurd h (Nat.not_lt_zero x)
  | m + 1, h => by
    unfold t_G
    by_cases e : x = m
    · subst e
      split
      · exact Nat.le_refl _
      · rename_i q
        exact Nat.le_of_not_lt (fun w => q ⟨hx, w⟩)
    · have := G_ge hx m (by omega)
      split
      · rename_i q; omega
      · exact this
theorem G_at {n : Nat} : ∀ m, t_G c A r U n m = 0 ∨ ∃ x, x < m ∧ t_L c A r U n x < U ∧ t_G c A r U n m = 10000 * s_cnt (fun p => x.testBit p) 6 - t_L c A r U n x
  | 0 => Or.inl rfl
  | m + 1 => by
    unfold t_G
    split
    · rename_i q; exact Or.inr ⟨m, by omega, q.1, rfl⟩
    · rcases G_at (n := n) m with e | ⟨x, h1, h2, h3⟩
      · exact Or.inl e
      · exact Or.inr ⟨x, by omega, h2, h3⟩
def t_g (c : Nat → Nat → Nat) (p : Nat) : Option Nat → Nat
  | none => 0
  | some k => 10000 - c k p
theorem t_gs {a : t_A} {n : Nat} (hc : ∀ k p, c k p ≤ 240) : ∀ r, t_s (t_g c) a r + t_s (t_c c) a r = 10000 * t_s t_1 a r ∧ t_s (t_c c) a r ≤ 240 * t_s t_1 a r ∧ t_s t_1 a r ≤ r
  | 0 => ⟨rfl, Nat.le_refl _, Nat.le_refl _⟩
  | r + 1 => by
    have ih := t_gs (a := a) (n := n) hc r
    show (t_s (t_g c) a r + t_g c r (a r)) + (t_s (t_c c) a r + t_c c r (a r)) = 10000 * (t_s t_1 a r + t_1 r (a r)) ∧ t_s (t_c c) a r + t_c c r (a r) ≤ 240 * (t_s t_1 a r + t_1 r (a r)) ∧ t_s t_1 a r + t_1 r (a r) ≤ r + 1
    cases a r with
    | none =>
      show (t_s (t_g c) a r + 0) + (t_s (t_c c) a r + 0) = 10000 * (t_s t_1 a r + 0) ∧ t_s (t_c c) a r + 0 ≤ 240 * (t_s t_1 a r + 0) ∧ t_s t_1 a r + 0 ≤ r + 1
      omega
    | some k =>
      have := hc k r
      show (t_s (t_g c) a r + (10000 - c k r)) + (t_s (t_c c) a r + c k r) = 10000 * (t_s t_1 a r + 1) ∧ t_s (t_c c) a r + c k r ≤ 240 * (t_s t_1 a r + 1) ∧ t_s t_1 a r + 1 ≤ r + 1
      omega
/-- the best is what a filling gains at most, and one does -/
theorem G_max {n : Nat} (hc : ∀ k p, c k p ≤ 240) (h6 : r ≤ 6) (hU : 100000 ≤ U) : (∀ a, t_va A n r a → t_s (t_g c) a r ≤ t_G c A r U n 64) ∧ ∃ a, t_va A n r a ∧ t_s (t_g c) a r = t_G c A r U n 64 := by
  have p64 : (2 : Nat) ^ r ≤ 64 := Nat.le_trans (Nat.pow_le_pow_right (by decide) h6) (by decide)
  refine ⟨fun a ha => ?_, ?_⟩
  · have g := t_gs (c := c) (a := a) (n := n) hc r
    have dl := t_d_lt (a := a) r
    have le := t_le (c := c) (U := U) n _ a ha t_d_dm dl
    have ge := G_ge (c := c) (A := A) (r := r) (U := U) (n := n) (x := t_d a r) (by omega) 64 (by omega)
    rw [t_pc6 h6 dl, t_pc r t_d_dm] at ge
    omega
  · rcases G_at (c := c) (A := A) (r := r) (U := U) (n := n) 64 with e | ⟨x, h1, h2, h3⟩
    · refine ⟨fun _ => none, ⟨fun _ _ e => (by cases e), fun _ _ _ e => (by cases e)⟩, ?_⟩
      rw [e]
      have : ∀ r, t_s (t_g c) (fun _ => none) r = 0 := by
        intro r
        induction r with
        | zero => rfl
        | succ r ih => show t_s (t_g c) (fun _ => none) r + 0 = 0; rw [ih]
      exact this r
    · have xl : x < 2 ^ r := Classical.byContradiction (fun w => by have := t_big (c := c) (A := A) (U := U) n x w; omega)
      obtain ⟨a, a1, a2, a3⟩ := t_at n x xl h2
      refine ⟨a, a1, ?_⟩
      have g := t_gs (c := c) (a := a) (n := n) hc r
      rw [h3, t_pc6 h6 xl, t_pc r a2, ← a3]
      omega
end PL
