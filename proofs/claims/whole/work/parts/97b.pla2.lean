/-! places: the least weight is the filling that is asked for -/
def t_D (j : Nat) : Nat := 21 ^ (6 - j)
def t_dg : Option Nat → Nat
  | none => 20
  | some k => k
def t_d1 (p : Nat) (o : Option Nat) : Nat := t_dg o * t_D (p + 1)
def t_h1 (h : Nat → Nat → Nat) (p : Nat) : Option Nat → Nat
  | none => 2000
  | some k => h k p
/-- a place's weight -/
def t_w (h : Nat → Nat → Nat) (p : Nat) (o : Option Nat) : Nat := 85766121 * t_h1 h p o + t_d1 p o
def t_W (h : Nat → Nat → Nat) (r : Nat) (a : t_A) : Nat := t_s (t_w h) a r
section PW
variable {h : Nat → Nat → Nat} {M : Nat → Nat → Bool} {r n : Nat}
theorem t_D_s {j : Nat} (hj : j < 6) : t_D j = 21 * t_D (j + 1) := by
  unfold t_D
  rw [show 6 - j = (6 - (j + 1)) + 1 from by omega, Nat.pow_succ, Nat.mul_comm]
theorem t_D_p (j : Nat) : 0 < t_D j := Nat.pow_pos (by decide)
theorem W_e {a : t_A} : ∀ r, t_W h r a = 85766121 * t_s (t_h1 h) a r + t_s t_d1 a r
  | 0 => rfl
  | r + 1 => by
    have ih := W_e (a := a) r
    show t_s (t_w h) a r + (85766121 * t_h1 h r (a r) + t_d1 r (a r)) = 85766121 * (t_s (t_h1 h) a r + t_h1 h r (a r)) + (t_s t_d1 a r + t_d1 r (a r))
    have ih : t_s (t_w h) a r = 85766121 * t_s (t_h1 h) a r + t_s t_d1 a r := ih
    omega
theorem H_e {a : t_A} : ∀ r, t_s (t_h1 h) a r + 2000 * t_s t_1 a r = 2000 * r + t_s (t_c h) a r
  | 0 => rfl
  | r + 1 => by
    have ih := H_e (a := a) r
    show (t_s (t_h1 h) a r + t_h1 h r (a r)) + 2000 * (t_s t_1 a r + t_1 r (a r)) = 2000 * (r + 1) + (t_s (t_c h) a r + t_c h r (a r))
    cases a r with
    | none =>
      show (t_s (t_h1 h) a r + 2000) + 2000 * (t_s t_1 a r + 0) = 2000 * (r + 1) + (t_s (t_c h) a r + 0)
      omega
    | some k =>
      show (t_s (t_h1 h) a r + h k r) + 2000 * (t_s t_1 a r + 1) = 2000 * (r + 1) + (t_s (t_c h) a r + h k r)
      omega
def t_ok (a : t_A) : Prop := ∀ p k, a p = some k → k < 20
theorem dg_le {a : t_A} (ha : t_ok a) (p : Nat) : t_dg (a p) ≤ 20 := by
  cases e : a p with
  | none => exact Nat.le_refl _
  | some k => have := ha p k e; show k ≤ 20; omega
/-- digits behind a place are less than one there -/
theorem d_tail {a : t_A} (ha : t_ok a) {p : Nat} : ∀ j, p + j ≤ 6 → t_s t_d1 a (p + j) + t_D (p + j) ≤ t_s t_d1 a p + t_D p
  | 0, _ => Nat.le_refl _
  | j + 1, hj => by
    have ih := d_tail ha (p := p) j (by omega)
    have e := t_D_s (j := p + j) (by omega)
    have dl := dg_le ha (p + j)
    have m : t_dg (a (p + j)) * t_D (p + j + 1) ≤ 20 * t_D (p + j + 1) := Nat.mul_le_mul_right _ dl
    show t_s t_d1 a (p + j) + t_dg (a (p + j)) * t_D (p + j + 1) + t_D (p + j + 1) ≤ _
    omega
theorem d_tail2 {a : t_A} (ha : t_ok a) {p : Nat} (hp : p ≤ r) (h6 : r ≤ 6) : t_s t_d1 a r + t_D r ≤ t_s t_d1 a p + t_D p := by
  have := d_tail ha (p := p) (r - p) (by omega)
  rw [show p + (r - p) = r from by omega] at this; exact this
theorem d_mono {a : t_A} {p : Nat} : ∀ j, t_s t_d1 a p ≤ t_s t_d1 a (p + j)
  | 0 => Nat.le_refl _
  | j + 1 => Nat.le_trans (d_mono j) (Nat.le_add_right _ _)
theorem d_all {a : t_A} (ha : t_ok a) (h6 : r ≤ 6) : t_s t_d1 a r < 85766121 := by
  have := d_tail2 (r := r) ha (Nat.zero_le _) h6
  have e : t_D 0 = 85766121 := by decide
  have e2 : t_s t_d1 a 0 = 0 := rfl
  have := t_D_p r
  omega
/-- one filling, another one from a place on -/
def t_cb (a : t_A) (p : Nat) (o : Option Nat) (b : t_A) : t_A := fun q => if q < p then a q else if q = p then o else b q
theorem cb_s {f : Nat → Option Nat → Nat} {a b : t_A} {p : Nat} {o : Option Nat} (hf : ∀ q, f q none = 0) (hb : ∀ q, q ≤ p → b q = none) : ∀ j, t_s f (t_cb a p o b) (p + 1 + j) = t_s f a p + f p o + t_s f b (p + 1 + j)
  | 0 => by
    have e1 : t_s f (t_cb a p o b) p = t_s f a p := t_s_cg p (fun q hq => if_pos hq)
    have e2 : ∀ m, m ≤ p + 1 → t_s f b m = 0 := by
      intro m
      induction m with
      | zero => exact fun _ => rfl
      | succ m ih =>
        intro hm
        show t_s f b m + f m (b m) = 0
        rw [ih (by omega), hb m (by omega), hf]
    show t_s f (t_cb a p o b) p + f p (t_cb a p o b p) = t_s f a p + f p o + t_s f b (p + 1)
    rw [e1, e2 (p + 1) (Nat.le_refl _), show t_cb a p o b p = o from by unfold t_cb; rw [if_neg (Nat.lt_irrefl _), if_pos rfl]]
    rfl
  | j + 1 => by
    have ih := cb_s (a := a) (o := o) hf hb j
    show t_s f (t_cb a p o b) (p + 1 + j) + f (p + 1 + j) (t_cb a p o b (p + 1 + j)) = t_s f a p + f p o + (t_s f b (p + 1 + j) + f (p + 1 + j) (b (p + 1 + j)))
    rw [ih, show t_cb a p o b (p + 1 + j) = b (p + 1 + j) from by unfold t_cb; rw [if_neg (by omega), if_neg (by omega)]]
    omega
theorem cb_s2 {f : Nat → Option Nat → Nat} {a b : t_A} {p : Nat} {o : Option Nat} (hf : ∀ q, f q none = 0) (hb : ∀ q, q ≤ p → b q = none) (hp : p < r) : t_s f (t_cb a p o b) r = t_s f a p + f p o + t_s f b r := by
  have := cb_s (a := a) (o := o) hf hb (r - (p + 1))
  rw [show p + 1 + (r - (p + 1)) = r from by omega] at this; exact this
/-- who may still be placed, and where -/
def t_An (M : Nat → Nat → Bool) (u l : Nat) (k p : Nat) : Bool := M k p && (!u.testBit k && l.testBit p)
theorem cb_va {a b : t_A} {p k u l : Nat} (ha : t_va M n r a) (hb : t_va (t_An M (u ||| 2 ^ k) l) n r b) (hu : ∀ x, u.testBit x = true ↔ ∃ i, i < p ∧ a i = some x) (hl : ∀ q, l.testBit q = true → p < q) (hk : k < n) (hM : M k p = true) (hku : u.testBit k = false) (hp : p < r) : t_va M n r (t_cb a p (some k) b) ∧ ∀ q, q ≤ p → b q = none := by
  have hb3 : ∀ q x, b q = some x → M x q = true ∧ u.testBit x = false ∧ x ≠ k ∧ p < q := fun q x e => by
    have := (hb.1 q x e).2.2
    unfold t_An at this
    rw [Bool.and_eq_true_iff, Bool.and_eq_true_iff, or_bt, Bool.not_eq_true', Bool.or_eq_false_iff] at this
    refine ⟨this.1, this.2.1.1, fun e => ?_, hl q this.2.2⟩
    have := this.2.1.2
    rw [decide_eq_true e.symm] at this; exact Bool.noConfusion this
  refine ⟨⟨fun q x e => ?_, fun q z x e1 e2 => ?_⟩, fun q hq => ?_⟩
  · unfold t_cb at e
    by_cases c1 : q < p
    · rw [if_pos c1] at e; exact ha.1 q x e
    · rw [if_neg c1] at e
      by_cases c2 : q = p
      · rw [if_pos c2] at e
        injection e with e
        subst e; subst c2
        exact ⟨hp, hk, hM⟩
      · rw [if_neg c2] at e
        exact ⟨(hb.1 q x e).1, (hb.1 q x e).2.1, (hb3 q x e).1⟩
  · have cls : ∀ q, t_cb a p (some k) b q = some x → (q < p ∧ a q = some x) ∨ (q = p ∧ x = k) ∨ (p < q ∧ b q = some x) := fun q e => by
      unfold t_cb at e
      by_cases c1 : q < p
      · rw [if_pos c1] at e; exact Or.inl ⟨c1, e⟩
      · rw [if_neg c1] at e
        by_cases c2 : q = p
        · rw [if_pos c2] at e
          injection e with e
          exact Or.inr (Or.inl ⟨c2, e.symm⟩)
        · rw [if_neg c2] at e
          exact Or.inr (Or.inr ⟨by omega, e⟩)
    have nk : ∀ q, q < p → a q = some k → False := fun q hq e => by
      have := (hu k).mpr ⟨q, hq, e⟩
      rw [hku] at this; exact Bool.noConfusion this
    have nb : ∀ q y, q < p → a q = some x → b y = some x → False := fun q y hq e e2 => by
      have := (hu x).mpr ⟨q, hq, e⟩
      rw [(hb3 y x e2).2.1] at this; exact Bool.noConfusion this
    rcases cls q e1 with ⟨c1, d1⟩ | ⟨c1, d1⟩ | ⟨c1, d1⟩
    · rcases cls z e2 with ⟨c2, d2⟩ | ⟨c2, d2⟩ | ⟨c2, d2⟩
      · exact ha.2 q z x d1 d2
      · subst d2; exact (nk q c1 d1).elim
      · exact (nb q z c1 d1 d2).elim
    · rcases cls z e2 with ⟨c2, d2⟩ | ⟨c2, d2⟩ | ⟨c2, d2⟩
      · subst d1; exact (nk z c2 d2).elim
      · rw [c1, c2]
      · exact absurd d1 (hb3 z x d2).2.2.1
    · rcases cls z e2 with ⟨c2, d2⟩ | ⟨c2, d2⟩ | ⟨c2, d2⟩
      · exact (nb z q c2 d2 d1).elim
      · exact absurd d2 (hb3 q x d1).2.2.1
      · exact hb.2 q z x d1 d2
  · cases e : b q with
    | none => rfl
    | some x => have := (hb3 q x e).2.2.2; omega
variable {a : t_A}
/-- a gain that is greater is a weight that is less -/
theorem W_lt {b : t_A} (hc : ∀ k p, h k p ≤ 240) (h6 : r ≤ 6) (oa : t_ok a) (ob : t_ok b) (hg : t_s (t_g h) a r < t_s (t_g h) b r) : t_W h r b < t_W h r a := by
  have g1 := t_gs (c := h) (a := a) (n := 0) hc r
  have g2 := t_gs (c := h) (a := b) (n := 0) hc r
  have e1 := H_e (h := h) (a := a) r
  have e2 := H_e (h := h) (a := b) r
  have d1 := d_all (r := r) oa h6
  have d2 := d_all (r := r) ob h6
  rw [W_e, W_e]
  have : t_s (t_h1 h) b r < t_s (t_h1 h) a r := by omega
  omega
theorem W_dg {b : t_A} (hc : ∀ k p, h k p ≤ 240) (h6 : r ≤ 6) (hg : t_s (t_g h) a r = t_s (t_g h) b r) (hd : t_s t_d1 b r < t_s t_d1 a r) : t_W h r b < t_W h r a := by
  have g1 := t_gs (c := h) (a := a) (n := 0) hc r
  have g2 := t_gs (c := h) (a := b) (n := 0) hc r
  have e1 := H_e (h := h) (a := a) r
  have e2 := H_e (h := h) (a := b) r
  rw [W_e, W_e]
  have : t_s (t_h1 h) b r = t_s (t_h1 h) a r := by omega
  omega
theorem va_ok (hn : n ≤ 20) (ha : t_va M n r a) : t_ok a := fun p k e => by have := (ha.1 p k e).2.1; omega
/-- what is asked at each place -/
theorem key_0 {U : Nat} (hc : ∀ k p, h k p ≤ 240) (h6 : r ≤ 6) (hU : 100000 ≤ U) (hn : n ≤ 20) (ha : t_va M n r a) (hmin : ∀ b, t_va M n r b → t_W h r a ≤ t_W h r b) : t_G h (t_An M 0 (2 ^ r - 1)) r U n 64 = t_s (t_g h) a r := by
  have same : ∀ b, t_va (t_An M 0 (2 ^ r - 1)) n r b ↔ t_va M n r b := fun b => by
    refine ⟨fun hb => ⟨fun p k e => ?_, hb.2⟩, fun hb => ⟨fun p k e => ?_, hb.2⟩⟩
    · obtain ⟨g1, g2, g3⟩ := hb.1 p k e
      unfold t_An at g3
      exact ⟨g1, g2, (Bool.and_eq_true_iff.mp g3).1⟩
    · obtain ⟨g1, g2, g3⟩ := hb.1 p k e
      refine ⟨g1, g2, ?_⟩
      unfold t_An
      rw [g3, Nat.zero_testBit, Nat.testBit_two_pow_sub_one, decide_eq_true g1]; rfl
  obtain ⟨m1, b, m2, m3⟩ := G_max (c := h) (A := t_An M 0 (2 ^ r - 1)) (r := r) (U := U) (n := n) hc h6 hU
  have le := m1 a ((same a).mpr ha)
  have vb := (same b).mp m2
  rcases Nat.lt_or_ge (t_s (t_g h) a r) (t_s (t_g h) b r) with q | q
  · have := W_lt hc h6 (va_ok hn ha) (va_ok hn vb) q
    have := hmin b vb
    omega
  · omega
theorem key_1 {U p k u l : Nat} (hc : ∀ k p, h k p ≤ 240) (h6 : r ≤ 6) (hU : 100000 ≤ U) (hn : n ≤ 20) (ha : t_va M n r a) (hmin : ∀ b, t_va M n r b → t_W h r a ≤ t_W h r b) (hu : ∀ x, u.testBit x = true ↔ ∃ i, i < p ∧ a i = some x) (hl : ∀ q, l.testBit q = true ↔ p < q ∧ q < r) (hp : p < r) (hk : a p = some k) : 10000 - h k p + t_G h (t_An M (u ||| 2 ^ k) l) r U n 64 + t_s (t_g h) a p = t_s (t_g h) a r := by
  obtain ⟨k1, k2, k3⟩ := ha.1 p k hk
  have ku : u.testBit k = false := by
    rcases q : u.testBit k with _ | _
    · rfl
    · obtain ⟨i, hi, e⟩ := (hu k).mp q
      have := ha.2 i p k e hk
      omega
  obtain ⟨m1, b, m2, m3⟩ := G_max (c := h) (A := t_An M (u ||| 2 ^ k) l) (r := r) (U := U) (n := n) hc h6 hU
  have hl1 : ∀ q, l.testBit q = true → p < q := fun q e => ((hl q).mp e).1
  -- what a has behind p
  have vb : t_va (t_An M (u ||| 2 ^ k) l) n r (fun q => if p < q then a q else none) := by
    refine ⟨fun q x e => ?_, fun q z x e1 e2 => ?_⟩
    · by_cases c : p < q
      · simp only [if_pos c] at e
        obtain ⟨g1, g2, g3⟩ := ha.1 q x e
        refine ⟨g1, g2, ?_⟩
        unfold t_An
        have hq : l.testBit q = true := (hl q).mpr ⟨c, g1⟩
        have xk : ¬ k = x := fun w => by
          subst w
          have := ha.2 p q k hk e
          omega
        have xu : u.testBit x = false := by
          rcases w : u.testBit x with _ | _
          · rfl
          · obtain ⟨i, hi, e9⟩ := (hu x).mp w
            have := ha.2 i q x e9 e
            omega
        rw [g3, hq, or_bt, xu, decide_eq_false xk]; rfl
      · simp only [if_neg c] at e; cases e
    · by_cases c : p < q
      · by_cases c2 : p < z
        · simp only [if_pos c] at e1
          simp only [if_pos c2] at e2
          exact ha.2 q z x e1 e2
        · simp only [if_neg c2] at e2; cases e2
      · simp only [if_neg c] at e1; cases e1
  have le := m1 _ vb
  have hb0 : ∀ q, q ≤ p → (fun q => if p < q then a q else none) q = none := fun q hq => by simp only [if_neg (show ¬ p < q by omega)]
  have sp := cb_s2 (f := t_g h) (r := r) (a := a) (o := some k) (fun _ => rfl) hb0 hp
  have ea : t_s (t_g h) (t_cb a p (some k) (fun q => if p < q then a q else none)) r = t_s (t_g h) a r := t_s_cg r (fun q hq => by
    unfold t_cb
    by_cases c1 : q < p
    · rw [if_pos c1]
    · rw [if_neg c1]
      by_cases c2 : q = p
      · rw [if_pos c2, c2, hk]
      · rw [if_neg c2]
        exact if_pos (show p < q by omega))
  obtain ⟨v2, hb2⟩ := cb_va ha m2 hu hl1 k2 k3 ku hp
  have sp2 := cb_s2 (f := t_g h) (r := r) (a := a) (o := some k) (fun _ => rfl) hb2 hp
  have e0 : t_g h p (some k) = 10000 - h k p := rfl
  rcases Nat.lt_or_ge (t_s (t_g h) a r) (t_s (t_g h) (t_cb a p (some k) b) r) with q | q
  · have := W_lt hc h6 (va_ok hn ha) (va_ok hn v2) q
    have := hmin _ v2
    omega
  · omega
theorem key_2 {U p k u l : Nat} (hc : ∀ k p, h k p ≤ 240) (h6 : r ≤ 6) (hU : 100000 ≤ U) (hn : n ≤ 20) (ha : t_va M n r a) (hmin : ∀ b, t_va M n r b → t_W h r a ≤ t_W h r b) (hu : ∀ x, u.testBit x = true ↔ ∃ i, i < p ∧ a i = some x) (hl : ∀ q, l.testBit q = true ↔ p < q ∧ q < r) (hp : p < r) (hk : k < n) (hM : M k p = true) (hku : u.testBit k = false) (hlt : k < t_dg (a p)) : 10000 - h k p + t_G h (t_An M (u ||| 2 ^ k) l) r U n 64 + t_s (t_g h) a p ≠ t_s (t_g h) a r := by
  intro eq
  obtain ⟨m1, b, m2, m3⟩ := G_max (c := h) (A := t_An M (u ||| 2 ^ k) l) (r := r) (U := U) (n := n) hc h6 hU
  have hl1 : ∀ q, l.testBit q = true → p < q := fun q e => ((hl q).mp e).1
  obtain ⟨v2, hb2⟩ := cb_va ha m2 hu hl1 hk hM hku hp
  have sp2 := cb_s2 (f := t_g h) (r := r) (a := a) (o := some k) (fun _ => rfl) hb2 hp
  have e0 : t_g h p (some k) = 10000 - h k p := rfl
  have ge : t_s (t_g h) a r = t_s (t_g h) (t_cb a p (some k) b) r := by omega
  have t2 := d_tail2 (r := r) (va_ok hn v2) (show p + 1 ≤ r from hp) h6
  have pre : t_s t_d1 (t_cb a p (some k) b) p = t_s t_d1 a p := t_s_cg p (fun q hq => if_pos hq)
  have s1 : t_s t_d1 (t_cb a p (some k) b) (p + 1) = t_s t_d1 a p + k * t_D (p + 1) := by
    show t_s t_d1 (t_cb a p (some k) b) p + t_d1 p (t_cb a p (some k) b p) = _
    rw [pre, show t_cb a p (some k) b p = some k from by unfold t_cb; rw [if_neg (Nat.lt_irrefl _), if_pos rfl]]; rfl
  have s2 : t_s t_d1 a (p + 1) = t_s t_d1 a p + t_dg (a p) * t_D (p + 1) := rfl
  have s3 := d_mono (a := a) (p := p + 1) (r - (p + 1))
  rw [show p + 1 + (r - (p + 1)) = r from by omega] at s3
  have m : (k + 1) * t_D (p + 1) ≤ t_dg (a p) * t_D (p + 1) := Nat.mul_le_mul_right _ hlt
  rw [Nat.succ_mul] at m
  have := t_D_p r
  have lt := W_dg (h := h) hc h6 ge (by omega)
  have := hmin _ v2
  omega
/-- the digits of a weight -/
theorem d_mul {a : t_A} : ∀ p, p ≤ 6 → ∃ y, t_s t_d1 a p = t_D p * y
  | 0, _ => ⟨0, rfl⟩
  | p + 1, hp => by
    obtain ⟨y, e⟩ := d_mul (a := a) p (by omega)
    refine ⟨21 * y + t_dg (a p), ?_⟩
    show t_s t_d1 a p + t_dg (a p) * t_D (p + 1) = _
    rw [e, t_D_s (by omega), Nat.mul_add, Nat.mul_comm (t_dg (a p)), Nat.mul_comm 21 (t_D (p + 1)), Nat.mul_assoc]
theorem W_digit (oa : t_ok a) (h6 : r ≤ 6) {p : Nat} (hp : p < r) : t_W h r a / t_D (p + 1) % 21 = t_dg (a p) := by
  obtain ⟨y, ey⟩ := d_mul (a := a) p (by omega)
  have t2 := d_tail2 (r := r) oa (show p + 1 ≤ r from hp) h6
  have s2 : t_s t_d1 a (p + 1) = t_s t_d1 a p + t_dg (a p) * t_D (p + 1) := rfl
  have s3 := d_mono (a := a) (p := p + 1) (r - (p + 1))
  rw [show p + 1 + (r - (p + 1)) = r from by omega] at s3
  have dl := dg_le oa p
  have pr := t_D_p r
  have hD : ∃ z, (85766121 : Nat) = t_D p * z := ⟨21 ^ p, by
    have : t_D p * 21 ^ p = 21 ^ 6 := by unfold t_D; rw [← Nat.pow_add]; congr 1; omega
    rw [this]⟩
  obtain ⟨z, ez⟩ := hD
  obtain ⟨rest, er⟩ : ∃ rest, t_s t_d1 a r = t_s t_d1 a (p + 1) + rest := ⟨t_s t_d1 a r - t_s t_d1 a (p + 1), by omega⟩
  have rl : rest < t_D (p + 1) := by omega
  have eW : t_W h r a = t_D (p + 1) * (21 * (z * t_s (t_h1 h) a r + y) + t_dg (a p)) + rest := by
    rw [W_e, er, s2, ey, ez, t_D_s (by omega : p < 6)]
    generalize t_D (p + 1) = D
    generalize t_s (t_h1 h) a r = H
    generalize t_dg (a p) = g
    have : D * (21 * (z * H + y) + g) = 21 * D * z * H + (21 * D * y + g * D) := by
      rw [Nat.mul_add, Nat.mul_comm D g, ← Nat.mul_assoc D 21, Nat.mul_comm D 21, Nat.mul_add (21 * D), Nat.mul_assoc (21 * D) z H]
      omega
    rw [this]; omega
  rw [eW, Nat.mul_add_div (t_D_p _), Nat.div_eq_of_lt rl, Nat.add_zero, Nat.mul_add_mod, Nat.mod_eq_of_lt (by omega)]
theorem W_hours (hc : ∀ k p, h k p ≤ 240) (oa : t_ok a) (h6 : r ≤ 6) : t_W h r a / 85766121 % 2000 = t_s (t_c h) a r := by
  have g1 := t_gs (c := h) (a := a) (n := 0) hc r
  have e1 := H_e (h := h) (a := a) r
  have d1 := d_all (r := r) oa h6
  rw [W_e]
  omega
end PW
