/-! the stays ahead and behind; the way -/
/-- the stay of a keeper that begins first behind a day -/
def s_nxt (V : am_V) (k day : Int32) : Nat → Option Nat
  | 0 => none
  | s + 1 => if (V 128 s = 1 ∧ V 129 s = k) ∧ ¬ V 126 s ≤ day then (match s_nxt V k day s with
    | none => some s
    | some j => if V 126 s < V 126 j then some s else some j) else s_nxt V k day s
def w_L (V : am_V) (k day : Int32) (n : Nat) (o : Option Nat) : Prop := (o = none → ∀ i, i < n → V 128 i = 1 → V 129 i = k → ¬ V 127 i < day) ∧ ∀ j, o = some j → j < n ∧ V 128 j = 1 ∧ V 129 j = k ∧ V 127 j < day ∧ ∀ i, i < n → V 128 i = 1 → V 129 i = k → V 127 i < day → V 127 i ≤ V 127 j
def w_F (V : am_V) (k day : Int32) (n : Nat) (o : Option Nat) : Prop := (o = none → ∀ i, i < n → V 128 i = 1 → V 129 i = k → V 126 i ≤ day) ∧ ∀ j, o = some j → j < n ∧ V 128 j = 1 ∧ V 129 j = k ∧ ¬ V 126 j ≤ day ∧ ∀ i, i < n → V 128 i = 1 → V 129 i = k → ¬ V 126 i ≤ day → V 126 j ≤ V 126 i
theorem am_letr {a b c : Int32} (h1 : a ≤ b) (h2 : b ≤ c) : a ≤ c := by (simp (disch := omega) only [Int32.lt_iff_toInt_lt, Int32.le_iff_toInt_le, ← Int32.toInt_inj, Int32.reduceToInt, nI_toInt] at *; omega)
theorem w_L_last {V : am_V} {k day : Int32} (n : Nat) : w_L V k day n (s_last V k day n) := by
  induction n with
  | zero => exact ⟨fun _ i hi => absurd hi (Nat.not_lt_zero i), fun j e => nomatch e⟩
  | succ n ih =>
    rw [s_last]
    by_cases c : (V 128 n = 1 ∧ V 129 n = k) ∧ V 127 n < day
    · rw [if_pos c]
      cases e : s_last V k day n with
      | none =>
        have i1 := ih.1 e
        refine ⟨fun q => (by simp at q), fun j q => ?_⟩
        have : n = j := by simpa using q
        subst this
        refine ⟨by omega, c.1.1, c.1.2, c.2, fun i hi a1 a2 a3 => ?_⟩
        by_cases x : i = n
        · subst x; exact Int32.le_refl _
        · exact absurd a3 (i1 i (by omega) a1 a2)
      | some j =>
        have i2 := ih.2 j e
        by_cases c2 : V 127 n ≤ V 127 j
        · simp only [if_pos c2]
          refine ⟨fun q => (by simp at q), fun j' q => ?_⟩
          have : j = j' := by simpa using q
          subst this
          refine ⟨by omega, i2.2.1, i2.2.2.1, i2.2.2.2.1, fun i hi a1 a2 a3 => ?_⟩
          by_cases x : i = n
          · subst x; exact c2
          · exact i2.2.2.2.2 i (by omega) a1 a2 a3
        · simp only [if_neg c2]
          refine ⟨fun q => (by simp at q), fun j' q => ?_⟩
          have : n = j' := by simpa using q
          subst this
          refine ⟨by omega, c.1.1, c.1.2, c.2, fun i hi a1 a2 a3 => ?_⟩
          by_cases x : i = n
          · subst x; exact Int32.le_refl _
          · have := i2.2.2.2.2 i (by omega) a1 a2 a3
            clear ih i2 e; (simp (disch := omega) only [Int32.lt_iff_toInt_lt, Int32.le_iff_toInt_le, ← Int32.toInt_inj, Int32.reduceToInt, nI_toInt] at *; omega)
    · rw [if_neg c]
      refine ⟨fun q i hi a1 a2 a3 => ?_, fun j q => ?_⟩
      · by_cases x : i = n
        · subst x; exact c ⟨⟨a1, a2⟩, a3⟩
        · exact ih.1 q i (by omega) a1 a2 a3
      · have i2 := ih.2 j q
        refine ⟨by omega, i2.2.1, i2.2.2.1, i2.2.2.2.1, fun i hi a1 a2 a3 => ?_⟩
        by_cases x : i = n
        · subst x; exact absurd ⟨⟨a1, a2⟩, a3⟩ c
        · exact i2.2.2.2.2 i (by omega) a1 a2 a3
theorem w_F_nxt {V : am_V} {k day : Int32} (n : Nat) : w_F V k day n (s_nxt V k day n) := by
  induction n with
  | zero => exact ⟨fun _ i hi => absurd hi (Nat.not_lt_zero i), fun j e => nomatch e⟩
  | succ n ih =>
    rw [s_nxt]
    by_cases c : (V 128 n = 1 ∧ V 129 n = k) ∧ ¬ V 126 n ≤ day
    · rw [if_pos c]
      cases e : s_nxt V k day n with
      | none =>
        have i1 := ih.1 e
        refine ⟨fun q => (by simp at q), fun j q => ?_⟩
        have : n = j := by simpa using q
        subst this
        refine ⟨by omega, c.1.1, c.1.2, c.2, fun i hi a1 a2 a3 => ?_⟩
        by_cases x : i = n
        · subst x; exact Int32.le_refl _
        · exact absurd (i1 i (by omega) a1 a2) a3
      | some j =>
        have i2 := ih.2 j e
        by_cases c2 : V 126 n < V 126 j
        · simp only [if_pos c2]
          refine ⟨fun q => (by simp at q), fun j' q => ?_⟩
          have : n = j' := by simpa using q
          subst this
          refine ⟨by omega, c.1.1, c.1.2, c.2, fun i hi a1 a2 a3 => ?_⟩
          by_cases x : i = n
          · subst x; exact Int32.le_refl _
          · have := i2.2.2.2.2 i (by omega) a1 a2 a3
            clear ih i2 e; (simp (disch := omega) only [Int32.lt_iff_toInt_lt, Int32.le_iff_toInt_le, ← Int32.toInt_inj, Int32.reduceToInt, nI_toInt] at *; omega)
        · simp only [if_neg c2]
          refine ⟨fun q => (by simp at q), fun j' q => ?_⟩
          have : j = j' := by simpa using q
          subst this
          refine ⟨by omega, i2.2.1, i2.2.2.1, i2.2.2.2.1, fun i hi a1 a2 a3 => ?_⟩
          by_cases x : i = n
          · subst x; exact Int32.not_lt.mp c2
          · exact i2.2.2.2.2 i (by omega) a1 a2 a3
    · rw [if_neg c]
      refine ⟨fun q i hi a1 a2 => ?_, fun j q => ?_⟩
      · by_cases x : i = n
        · subst x
          exact Decidable.byContradiction (fun a3 => c ⟨⟨a1, a2⟩, a3⟩)
        · exact ih.1 q i (by omega) a1 a2
      · have i2 := ih.2 j q
        refine ⟨by omega, i2.2.1, i2.2.2.1, i2.2.2.2.1, fun i hi a1 a2 a3 => ?_⟩
        by_cases x : i = n
        · subst x; exact absurd ⟨⟨a1, a2⟩, a3⟩ c
        · exact i2.2.2.2.2 i (by omega) a1 a2 a3
/-- stays of one keeper with one last day are one -/
theorem w_L_u {V : am_V} {k day : Int32} {o o' : Option Nat} (hv : Inv V) (h : w_L V k day (am_n V 113 14) o) (h' : w_L V k day (am_n V 113 14) o') : o = o' := by
  cases o with
  | none =>
    cases o' with
    | none => rfl
    | some j =>
      have a := h'.2 j rfl
      exact absurd a.2.2.2.1 (h.1 rfl j a.1 a.2.1 a.2.2.1)
  | some i =>
    have b := h.2 i rfl
    cases o' with
    | none => exact absurd b.2.2.2.1 (h'.1 rfl i b.1 b.2.1 b.2.2.1)
    | some j =>
      have a := h'.2 j rfl
      have hn2 := hv.1.2.2.2.1.2
      have e1 := a.2.2.2.2 i b.1 b.2.1 b.2.2.1 b.2.2.2.1
      have e2 := b.2.2.2.2 j a.1 a.2.1 a.2.2.1 a.2.2.2.1
      by_cases e : i = j
      · rw [e]
      · have x := hv.2.2.2.2.1 i j b.1 a.1 e b.2.1 a.2.1 (b.2.2.1.trans a.2.2.1.symm)
        have v1 := hv.2.2.2.1.1 i (by omega)
        have v2 := hv.2.2.2.1.1 j (by omega)
        have v12 := v1.2.2.1.2
        have v22 := v2.2.2.1.2
        have o1 := (hv.2.2.2.1.2 i b.1).1.1
        have o2 := (hv.2.2.2.1.2 j a.1).1.1
        rw [v1.2.2.1.1, v2.2.2.1.1, nI_leI (by omega) (by omega)] at e1
        rw [v1.2.2.1.1, v2.2.2.1.1, nI_leI (by omega) (by omega)] at e2
        omega
theorem w_F_u {V : am_V} {k day : Int32} {o o' : Option Nat} (hv : Inv V) (h : w_F V k day (am_n V 113 14) o) (h' : w_F V k day (am_n V 113 14) o') : o = o' := by
  cases o with
  | none =>
    cases o' with
    | none => rfl
    | some j =>
      have a := h'.2 j rfl
      exact absurd (h.1 rfl j a.1 a.2.1 a.2.2.1) a.2.2.2.1
  | some i =>
    have b := h.2 i rfl
    cases o' with
    | none => exact absurd (h'.1 rfl i b.1 b.2.1 b.2.2.1) b.2.2.2.1
    | some j =>
      have a := h'.2 j rfl
      have hn2 := hv.1.2.2.2.1.2
      have e1 := a.2.2.2.2 i b.1 b.2.1 b.2.2.1 b.2.2.2.1
      have e2 := b.2.2.2.2 j a.1 a.2.1 a.2.2.1 a.2.2.2.1
      by_cases e : i = j
      · rw [e]
      · have x := hv.2.2.2.2.1 i j b.1 a.1 e b.2.1 a.2.1 (b.2.2.1.trans a.2.2.1.symm)
        have v1 := hv.2.2.2.1.1 i (by omega)
        have v2 := hv.2.2.2.1.1 j (by omega)
        have v12 := v1.2.1.2
        have v22 := v2.2.1.2
        have o1 := (hv.2.2.2.1.2 i b.1).1.1
        have o2 := (hv.2.2.2.1.2 j a.1).1.1
        rw [v1.2.1.1, v2.2.1.1, nI_leI (by omega) (by omega)] at e1
        rw [v1.2.1.1, v2.2.1.1, nI_leI (by omega) (by omega)] at e2
        omega
