/-! chains: what a keeper may take does not hang on other open stays, but by days -/
def s_ln (V : am_V) (i : Nat) : Nat := am_n V 127 (s_rw V i) + 1 - am_n V 126 (s_rw V i)
def s_D (V : am_V) (s : Nat) : Nat := n_sum (fun i => s.testBit i) (s_ln V) (s_rl V)
def s_C (s : Nat) : Int := (s_so (nI s) 10).toInt
def w_le (V : am_V) (s b : Nat) : Prop := s_D V s < s_D V b ∨ (s_D V s = s_D V b ∧ (s_C b < s_C s ∨ (s_C b = s_C s ∧ b ≤ s)))
def s_may (V : am_V) (k s : Nat) : Bool := !decide (V 126 s ≤ V 113 0) && decide (V 123 (am_n V 125 s) &&& (V 118 k ^^^ -1) = 0) && !decide (s_worth V k s ≤ 0)
def w_ext (k : Nat) (r : Nat → Nat) : List Nat → am_V → Nat → Nat → Prop
  | [], _, s0, s => s = s0
  | a :: l, V, s0, s => (s_wd V k (r a) = 0 ∧ w_ext k r l (w_tk V k (r a)) (s0 ||| 2 ^ a) s) ∨ w_ext k r l V s0 s
def s_ft (k : Nat) (r : Nat → Nat) : List Nat → am_V → Nat → Bool
  | [], _, _ => true
  | a :: l, V, s => if s.testBit a = true then (if s_why V k (r a) = 0 then s_ft k r l (w_tk V k (r a)) s else false) else s_ft k r l V s
def s_sf (V : am_V) : List Nat → Nat
  | [] => 0
  | a :: l => s_sf V l + s_ln V a
section CN
variable {V : am_V} {k : Nat} {r : Nat → Nat}
theorem le_r {s : Nat} : w_le V s s := Or.inr ⟨rfl, Or.inr ⟨rfl, Nat.le_refl _⟩⟩
theorem le_t {a b c : Nat} (h1 : w_le V a b) (h2 : w_le V b c) : w_le V a c := by
  unfold w_le at *
  omega
theorem le_a {a b : Nat} (h1 : w_le V a b) (h2 : w_le V b a) : a = b := by
  unfold w_le at *
  omega
theorem le_tot {a b : Nat} (h : ¬ w_le V a b) : w_le V b a := by
  unfold w_le at *
  omega
theorem sum_or {x : Nat → Nat} {s a : Nat} : ∀ n, (s.testBit a = false → n_sum (fun i => (s ||| 2 ^ a).testBit i) x n = n_sum (fun i => s.testBit i) x n + (if a < n then x a else 0)) ∧ n_sum (fun i => (s ||| 2 ^ a).testBit i) x n ≤ n_sum (fun i => s.testBit i) x n + (if a < n then x a else 0)
  | 0 => ⟨fun _ => rfl, Nat.le_refl _⟩
  | n + 1 => by
    have ih := sum_or (x := x) (s := s) (a := a) n
    have q3 := or_bt (s := s) (a := a) (b := n)
    have e1 : n_sum (fun i => (s ||| 2 ^ a).testBit i) x (n + 1) = if (s ||| 2 ^ a).testBit n = true then n_sum (fun i => (s ||| 2 ^ a).testBit i) x n + x n else n_sum (fun i => (s ||| 2 ^ a).testBit i) x n := rfl
    have e2 : n_sum (fun i => s.testBit i) x (n + 1) = if s.testBit n = true then n_sum (fun i => s.testBit i) x n + x n else n_sum (fun i => s.testBit i) x n := rfl
    rw [e1, e2]
    generalize n_sum (fun i => (s ||| 2 ^ a).testBit i) x n = A at ih
    generalize n_sum (fun i => s.testBit i) x n = B at ih
    by_cases e : a = n
    · subst e
      rw [if_neg (Nat.lt_irrefl _)] at ih
      rw [decide_eq_true rfl, Bool.or_true] at q3
      rw [if_pos q3, if_pos (Nat.lt_succ_self _)]
      refine ⟨fun h => ?_, ?_⟩
      · rw [if_neg (fun w => by rw [h] at w; exact Bool.noConfusion w)]
        have := ih.1 h; omega
      · have := ih.2
        split <;> omega
    · rw [decide_eq_false e, Bool.or_false] at q3
      have c : (a < n + 1) ↔ a < n := by omega
      rw [show (if a < n + 1 then x a else 0) = if a < n then x a else 0 from by
        by_cases q : a < n
        · rw [if_pos q, if_pos (c.mpr q)]
        · rw [if_neg q, if_neg (fun w => q (c.mp w))]]
      generalize (if a < n then x a else 0) = C at ih ⊢
      by_cases q : s.testBit n = true
      · rw [if_pos q, if_pos (q3.trans q)]
        exact ⟨fun h => by have := ih.1 h; omega, by have := ih.2; omega⟩
      · rw [if_neg q, if_neg (fun w => q (q3.symm.trans w))]
        exact ih
theorem D_or {s a : Nat} (h : s.testBit a = false) (ha : a < s_rl V) : s_D V (s ||| 2 ^ a) = s_D V s + s_ln V a := by
  have := (sum_or (x := s_ln V) (s := s) (a := a) (s_rl V)).1 h
  rw [if_pos ha] at this; exact this
theorem D_or2 {s a : Nat} : s_D V (s ||| 2 ^ a) ≤ s_D V s + s_ln V a := by
  have := (sum_or (x := s_ln V) (s := s) (a := a) (s_rl V)).2
  have h2 : (if a < s_rl V then s_ln V a else 0) ≤ s_ln V a := by split <;> omega
  exact Nat.le_trans this (Nat.add_le_add_left h2 _)
theorem D_0 : s_D V 0 = 0 := by
  unfold s_D
  generalize s_rl V = n
  induction n with
  | zero => rfl
  | succ n ih => simp only [n_sum, Nat.zero_testBit, Bool.false_eq_true, if_false]; simp only [Nat.zero_testBit] at ih; exact ih
theorem ln_le (hv : Inv V) {a : Nat} (ha : s_rw V a < 60) : s_ln V a ≤ 1501 := by
  have := (hv.2.2.2.1.1 _ ha).2.2.1.2
  unfold s_ln; omega
theorem D_le (hv : Inv V) (ha : s_alo V = true) (s : Nat) : s_D V s ≤ 20000 := by
  have key : ∀ n, n ≤ s_rl V → n_sum (fun i => s.testBit i) (s_ln V) n ≤ n * 1501 := by
    intro n
    induction n with
    | zero => exact fun _ => Nat.zero_le _
    | succ n ih =>
      intro hn
      have h1 := ih (by omega)
      have h2 := ln_le hv (row_s hv ha (show n < s_rl V by omega)).2.2
      have e : n_sum (fun i => s.testBit i) (s_ln V) (n + 1) = if s.testBit n = true then n_sum (fun i => s.testBit i) (s_ln V) n + s_ln V n else n_sum (fun i => s.testBit i) (s_ln V) n := rfl
      rw [e, Nat.succ_mul]
      generalize n * 1501 = M at h1 ⊢
      by_cases q : s.testBit n = true
      · rw [if_pos q]; omega
      · rw [if_neg q]; omega
  have h3 := key _ (Nat.le_refl _)
  have h4 := (rl_12 hv).2
  have h5 : s_rl V * 1501 ≤ 12 * 1501 := Nat.mul_le_mul_right _ h4
  unfold s_D; omega
/-! a stay that is taken changes nothing of worth -/
theorem lat_tk {k' s' : Nat} {ho : Int32} : ∀ n, s_lat (w_tk V k' s') ho n = s_lat V ho n
  | 0 => rfl
  | n + 1 => by
    show (if V 134 n = ho ∧ V 135 n ≤ V 113 0 then (match s_lat (w_tk V k' s') ho n with
      | none => some n
      | some j => if V 135 n < V 135 j then some j else some n) else s_lat (w_tk V k' s') ho n) = _
    rw [lat_tk n]; rfl
theorem trk {k' s' : Nat} (hv : Inv V) (hs : s' < 60) (ho : V 128 s' = 0) (w d : Int32) : s_tr (w_tk V k' s') w d = s_tr V w d := tr_up hv hs ho
theorem tw_tk {k' s' : Nat} (hv : Inv V) (hs : s' < 60) (ho : V 128 s' = 0) : s_tw (w_tk V k' s') k = s_tw V k := by
  have e0 : (w_tk V k' s') 113 = V 113 := rfl
  have e1 : (w_tk V k' s') 120 = V 120 := rfl
  have e2 : am_n (w_tk V k' s') 113 4 = am_n V 113 4 := rfl
  unfold s_tw
  rw [e2, e0, e1]
  refine s_any_congr (fun j _ => ?_)
  rw [trk hv hs ho]
theorem let_tk1 {k' s' s : Nat} (hv : Inv V) (hs : s' < 60) (ho : V 128 s' = 0) : s_kw (w_tk V k' s') (nI k) (V 113 0) = s_kw V (nI k) (V 113 0) := kn_up hv hs ho
theorem let_tk {k' s' s : Nat} (hv : Inv V) (hs : s' < 60) (ho : V 128 s' = 0) : s_let (w_tk V k' s') k s = s_let V k s := by
  have e0 : (w_tk V k' s') 113 = V 113 := rfl
  have e1 : (w_tk V k' s') 119 = V 119 := rfl
  have e2 : (w_tk V k' s') 123 = V 123 := rfl
  have e3 : (w_tk V k' s') 125 = V 125 := rfl
  have e4 : (w_tk V k' s') 126 = V 126 := rfl
  have e5 : (w_tk V k' s') 127 = V 127 := rfl
  have e6 : (w_tk V k' s') 114 = V 114 := rfl
  have e7 : s_tn (w_tk V k' s') s = s_tn V s := rfl
  have e8 : am_n (w_tk V k' s') 125 s = am_n V 125 s := rfl
  funext j
  unfold s_let
  rw [e0, e1, e2, e3, e4, e5, e6, e7, e8, tw_tk hv hs ho, trk hv hs ho, let_tk1 (s := s) hv hs ho]
theorem worth_tk {k' s' s : Nat} (hv : Inv V) (hs : s' < 60) (ho : V 128 s' = 0) : s_worth (w_tk V k' s') k s = s_worth V k s := by
  have ef : s_frc (w_tk V k' s') (V 125 s) = s_frc V (V 125 s) := by
    unfold s_frc
    rw [show am_n (w_tk V k' s') 113 25 = am_n V 113 25 from rfl, lat_tk, lat_tk]
  unfold s_worth
  rw [show (w_tk V k' s') 125 s = V 125 s from rfl, ef]
  cases s_frc V (V 125 s) with
  | none => rfl
  | some t =>
    simp only []
    unfold s_val
    rw [let_tk hv hs ho, show w_T (w_tk V k' s') t = w_T V t from rfl, show am_n (w_tk V k' s') 136 t = am_n V 136 t from rfl]
theorem may_tk {k' s' s : Nat} (hv : Inv V) (hs : s' < 60) (ho : V 128 s' = 0) : s_may (w_tk V k' s') k s = s_may V k s := by
  unfold s_may
  rw [worth_tk hv hs ho]; rfl
theorem why_iff {s : Nat} (ho : V 128 s = 0) : s_why V k s = 0 ↔ s_may V k s = true ∧ s_wd V k s = 0 := by
  unfold s_why s_may
  rw [if_pos ho]
  by_cases c1 : V 126 s ≤ V 113 0
  · rw [if_pos c1, decide_eq_true c1]
    simp
  · rw [if_neg c1, decide_eq_false c1]
    by_cases c2 : V 123 (am_n V 125 s) &&& (V 118 k ^^^ -1) = 0
    · rw [if_pos c2, decide_eq_true c2]
      by_cases c3 : s_worth V k s ≤ 0
      · rw [decide_eq_true c3]
        by_cases c4 : s_wd V k s = 0
        · rw [if_pos c4, if_pos c3]; simp
        · rw [if_neg c4]; simp [c4]
      · rw [decide_eq_false c3]
        by_cases c4 : s_wd V k s = 0
        · rw [if_pos c4, if_neg c3]; simp [c4]
        · rw [if_neg c4]; simp [c4]
    · rw [if_neg c2, decide_eq_false c2]; simp
theorem wd_0 {s : Nat} (h : s_wd V k s = 0) : s_meets V k s = false := by
  unfold s_wd at h
  rcases q : s_meets V k s with _ | _
  · rfl
  · rw [if_pos q] at h; exact absurd h (by decide)
theorem ext_bt : ∀ {l : List Nat} {V : am_V} {s0 s : Nat}, w_ext k r l V s0 s → ∀ b, b ∉ l → s.testBit b = s0.testBit b
  | [], _, _, _, h, b, _ => by
    have h : _ = _ := h
    rw [h]
  | a :: l, V, s0, s, h, b, hb => by
    have hb' := fun q => hb (List.mem_cons_of_mem a q)
    have hne : a ≠ b := fun q => hb (by rw [q]; exact List.mem_cons_self)
    rcases h with h | h
    · rw [ext_bt h.2 b hb', or_bt, decide_eq_false hne, Bool.or_false]
    · exact ext_bt h b hb'
theorem ext_D : ∀ {l : List Nat} {V' : am_V} {s0 s : Nat}, w_ext k r l V' s0 s → s_D V s ≤ s_D V s0 + s_sf V l
  | [], _, _, _, h => by
    have h : _ = _ := h
    rw [h]; exact Nat.le_refl _
  | a :: l, V', s0, s, h => by
    rcases h with h | h
    · have h1 := ext_D h.2
      have h2 := D_or2 (V := V) (s := s0) (a := a)
      show _ ≤ _ + (s_sf V l + s_ln V a)
      omega
    · have h1 := ext_D h
      show _ ≤ _ + (s_sf V l + s_ln V a)
      omega
theorem ext_ft : ∀ {l : List Nat} {V : am_V} {s0 s : Nat}, Inv V → k < 20 → (∀ a, a ∈ l → r a < am_n V 113 14 ∧ V 128 (r a) = 0) → l.Nodup → (∀ a b, a ∈ l → b ∈ l → r a = r b → a = b) → (∀ a, a ∈ l → s0.testBit a = false) → (∀ b, b ∉ l → s.testBit b = s0.testBit b) → (w_ext k r (l.filter (fun a => s_may V k (r a))) V s0 s ↔ s_ft k r l V s = true)
  | [], V, s0, s, hv, hk, h1, h2, h3, h4, h5 => by
    refine ⟨fun _ => rfl, fun _ => ?_⟩
    show s = s0
    exact Nat.eq_of_testBit_eq (fun b => h5 b (by simp))
  | a :: l, V, s0, s, hv, hk, h1, h2, h3, h4, h5 => by
    have h2' := List.nodup_cons.mp h2
    have ha := h1 a List.mem_cons_self
    have hn2 := hv.1.2.2.2.1.2
    have m1 : ∀ b, b ∈ l → r b < am_n V 113 14 ∧ V 128 (r b) = 0 := fun b hb => h1 b (List.mem_cons_of_mem _ hb)
    have m3 : ∀ b c, b ∈ l → c ∈ l → r b = r c → b = c := fun b c hb hc => h3 b c (List.mem_cons_of_mem _ hb) (List.mem_cons_of_mem _ hc)
    have skip : s.testBit a = false → (w_ext k r (l.filter (fun a => s_may V k (r a))) V s0 s ↔ s_ft k r l V s = true) := fun q => ext_ft hv hk m1 h2'.2 m3 (fun b hb => h4 b (List.mem_cons_of_mem _ hb)) (fun b hb => by
      by_cases e : b = a
      · subst e; rw [q, h4 b List.mem_cons_self]
      · exact h5 b (fun w => by
          rcases List.mem_cons.mp w with w | w
          · exact e w
          · exact hb w))
    have noa : s.testBit a = true → ¬ w_ext k r (l.filter (fun a => s_may V k (r a))) V s0 s := fun q w => by
      have := ext_bt w a (fun z => h2'.1 (List.mem_filter.mp z).1)
      rw [q, h4 a List.mem_cons_self] at this; exact Bool.noConfusion this
    unfold s_ft
    by_cases p : s_may V k (r a) = true
    · rw [List.filter_cons_of_pos (p := fun a => s_may V k (r a)) (a := a) p]
      show ((s_wd V k (r a) = 0 ∧ w_ext k r (l.filter (fun a => s_may V k (r a))) (w_tk V k (r a)) (s0 ||| 2 ^ a) s) ∨ w_ext k r (l.filter (fun a => s_may V k (r a))) V s0 s) ↔ _
      rcases q : s.testBit a with _ | _
      · rw [if_neg (by decide), ← skip q]
        refine ⟨fun h => h.elim (fun h => ?_) id, Or.inr⟩
        have := ext_bt h.2 a (fun z => h2'.1 (List.mem_filter.mp z).1)
        rw [q, or_bt, decide_eq_true rfl, Bool.or_true] at this; exact Bool.noConfusion this
      · rw [if_pos rfl]
        have wi := why_iff (k := k) ha.2
        by_cases c : s_wd V k (r a) = 0
        · rw [if_pos (wi.mpr ⟨p, c⟩)]
          have hv' := Inv_tk hv hk ha.1 ha.2 (wd_0 c)
          have u8 : ∀ x, x ≠ r a → (w_tk V k (r a)) 128 x = V 128 x := fun x hx => by
            show upd (V 128) (r a) 1 x = _
            rw [upd_ne hx]
          have ne : ∀ b, b ∈ l → r b ≠ r a := fun b hb e => h2'.1 (by
            rw [← h3 b a (List.mem_cons_of_mem _ hb) List.mem_cons_self e]; exact hb)
          have ih := ext_ft (l := l) (V := w_tk V k (r a)) (s0 := s0 ||| 2 ^ a) (s := s) hv' hk (fun b hb => ⟨(m1 b hb).1, by rw [u8 _ (ne b hb)]; exact (m1 b hb).2⟩) h2'.2 m3 (fun b hb => by
            rw [or_bt, h4 b (List.mem_cons_of_mem _ hb), decide_eq_false (fun e => h2'.1 (by rw [e]; exact hb))]; rfl) (fun b hb => by
            rw [or_bt]
            by_cases e : a = b
            · subst e; rw [q, decide_eq_true rfl, Bool.or_true]
            · rw [decide_eq_false e, Bool.or_false]
              exact h5 b (fun w => by
                rcases List.mem_cons.mp w with w | w
                · exact e w.symm
                · exact hb w))
          have ef : l.filter (fun x => s_may (w_tk V k (r a)) k (r x)) = l.filter (fun x => s_may V k (r x)) := List.filter_congr (fun x _ => may_tk hv (by omega) ha.2)
          rw [ef] at ih
          rw [← ih]
          exact ⟨fun h => h.elim (fun h => h.2) (fun h => absurd h (noa q)), fun h => Or.inl ⟨c, h⟩⟩
        · rw [if_neg (fun w => c (wi.mp w).2)]
          exact ⟨fun h => h.elim (fun h => absurd h.1 c) (fun h => absurd h (noa q)), fun h => by cases h⟩
    · rw [List.filter_cons_of_neg (p := fun a => s_may V k (r a)) (a := a) p]
      rcases q : s.testBit a with _ | _
      · rw [if_neg (by decide)]; exact skip q
      · rw [if_pos rfl, if_neg (fun w => p ((why_iff (k := k) ha.2).mp w).1)]
        exact ⟨fun h => absurd h (noa q), fun h => by cases h⟩
/-! the best set, one after the other -/
def s_bst (V : am_V) (k : Nat) : Nat → Nat
  | 0 => 0
  | n + 1 => if s_D V (n + 1) < s_D V (s_bst V k n) ∨ (s_D V (n + 1) = s_D V (s_bst V k n) ∧ s_C (s_bst V k n) ≤ s_C (n + 1)) ∨ s_ft k (s_rw V) (s_srt (fun i => am_n V 126 (s_rw V i)) (s_rl V)) V (n + 1) = false then s_bst V k n else n + 1
theorem bst_le : ∀ n, s_bst V k n ≤ n
  | 0 => Nat.le_refl _
  | n + 1 => by
    unfold s_bst
    split
    · have := bst_le n; omega
    · exact Nat.le_refl _
theorem bst_ok : ∀ n, (s_bst V k n = 0 ∨ s_ft k (s_rw V) (s_srt (fun i => am_n V 126 (s_rw V i)) (s_rl V)) V (s_bst V k n) = true) ∧ ∀ s, s ≤ n → (s = 0 ∨ s_ft k (s_rw V) (s_srt (fun i => am_n V 126 (s_rw V i)) (s_rl V)) V s = true) → w_le V s (s_bst V k n)
  | 0 => ⟨Or.inl rfl, fun s hs _ => by rw [Nat.le_zero.mp hs]; exact le_r⟩
  | n + 1 => by
    obtain ⟨ih1, ih2⟩ := bst_ok n
    have hb := bst_le (V := V) (k := k) n
    by_cases c : s_D V (n + 1) < s_D V (s_bst V k n) ∨ (s_D V (n + 1) = s_D V (s_bst V k n) ∧ s_C (s_bst V k n) ≤ s_C (n + 1)) ∨ s_ft k (s_rw V) (s_srt (fun i => am_n V 126 (s_rw V i)) (s_rl V)) V (n + 1) = false
    · have e : s_bst V k (n + 1) = s_bst V k n := by
        conv => lhs; unfold s_bst
        rw [if_pos c]
      rw [e]
      refine ⟨ih1, fun s hs hf => ?_⟩
      by_cases q : s = n + 1
      · subst q
        rcases c with c | c | c
        · exact Or.inl c
        · exact Or.inr ⟨c.1, by omega⟩
        · rcases hf with hf | hf
          · omega
          · rw [c] at hf; exact Bool.noConfusion hf
      · exact ih2 s (by omega) hf
    · have e : s_bst V k (n + 1) = n + 1 := by
        conv => lhs; unfold s_bst
        rw [if_neg c]
      rw [e]
      have ft : s_ft k (s_rw V) (s_srt (fun i => am_n V 126 (s_rw V i)) (s_rl V)) V (n + 1) = true := am_bnf (fun q => c (Or.inr (Or.inr q)))
      have up : w_le V (s_bst V k n) (n + 1) := by
        have c1 : ¬ s_D V (n + 1) < s_D V (s_bst V k n) := fun q => c (Or.inl q)
        have c2 : ¬ (s_D V (n + 1) = s_D V (s_bst V k n) ∧ s_C (s_bst V k n) ≤ s_C (n + 1)) := fun q => c (Or.inr (Or.inl q))
        unfold w_le
        omega
      refine ⟨Or.inr ft, fun s hs hf => ?_⟩
      by_cases q : s = n + 1
      · subst q; exact le_r
      · exact le_t (ih2 s (by omega) hf) up
/-- a set that is at least as good as all that could be taken is that one -/
theorem bst_uniq {B : Nat} (hv : Inv V) (ha : s_alo V = true) (ho : s_opn V = true) (hk : k < 20) (hB : B = 0 ∨ w_ext k (s_rw V) (s_srp (fun i => am_n V 126 (s_rw V i)) (fun i => s_may V k (s_rw V i)) (s_rl V)) V 0 B) (hA : ∀ s, w_ext k (s_rw V) (s_srp (fun i => am_n V 126 (s_rw V i)) (fun i => s_may V k (s_rw V i)) (s_rl V)) V 0 s → w_le V s B) (h0 : w_le V 0 B) : B = s_bst V k (2 ^ s_rl V - 1) := by
  rw [srp_fl] at hB hA
  have ef := fun s (h5 : ∀ b, b ∉ s_srt (fun i => am_n V 126 (s_rw V i)) (s_rl V) → s.testBit b = (0 : Nat).testBit b) => ext_ft (l := s_srt (fun i => am_n V 126 (s_rw V i)) (s_rl V)) (V := V) (s0 := 0) (s := s) (r := s_rw V) hv hk (fun a h => ⟨(row_s hv ha (srt_mem.mp h)).2.1, (row_o hv ha ho (srt_mem.mp h)).1⟩) (srt_nd _) (fun a b h1 h2 e => (row_o hv ha ho (srt_mem.mp h2)).2 a (srt_mem.mp h1) e) (fun a _ => Nat.zero_testBit a) h5
  have small : ∀ s, w_ext k (s_rw V) ((s_srt (fun i => am_n V 126 (s_rw V i)) (s_rl V)).filter (fun i => s_may V k (s_rw V i))) V 0 s → ∀ b, b ∉ s_srt (fun i => am_n V 126 (s_rw V i)) (s_rl V) → s.testBit b = (0 : Nat).testBit b := fun s h b hb => ext_bt h b (fun z => hb (List.mem_filter.mp z).1)
  obtain ⟨b1, b2⟩ := bst_ok (V := V) (k := k) (2 ^ s_rl V - 1)
  have hp : 0 < 2 ^ s_rl V := Nat.pow_pos (by decide)
  refine le_a (b2 B ?_ ?_) ?_
  · rcases hB with e | e
    · omega
    · have : B < 2 ^ s_rl V := Nat.lt_pow_two_of_testBit B (fun i hi => by
        rw [small B e i (fun z => by have := srt_mem.mp z; omega)]; exact Nat.zero_testBit i)
      omega
  · rcases hB with e | e
    · exact Or.inl e
    · exact Or.inr ((ef B (small B e)).mp e)
  · rcases b1 with e | e
    · rw [e]; exact h0
    · refine hA _ ((ef _ (fun b hb => ?_)).mpr e)
      have hb2 := bst_le (V := V) (k := k) (2 ^ s_rl V - 1)
      rw [Nat.zero_testBit]
      exact Nat.testBit_lt_two_pow (Nat.lt_of_lt_of_le (show s_bst V k (2 ^ s_rl V - 1) < 2 ^ s_rl V by omega) (Nat.pow_le_pow_right (by decide) (Nat.le_of_not_lt (fun z => hb (srt_mem.mpr z)))))
end CN
