/-! too long in a land: class and reference agree -/
section LO
variable {d : Nat} {I V : am_V} {L : Nat → Nat → Int64} {R : am_R}
theorem ov_nat {j s : Nat} (hv : Inv V) (hj : j < 60) (hs : s < 60) : s_ov V j s = true ↔ am_n V 126 j ≤ am_n V 127 s ∧ am_n V 126 s ≤ am_n V 127 j := by
  have a1 := hv.2.2.2.1.1 j hj
  have a2 := hv.2.2.2.1.1 s hs
  have b1 := a1.2.1.2
  have b2 := a1.2.2.1.2
  have b3 := a2.2.1.2
  have b4 := a2.2.2.1.2
  rw [ov_iff, a1.2.1.1, a1.2.2.1.1, a2.2.1.1, a2.2.2.1.1, nI_leI (by omega) (by omega), nI_ltI (by omega) (by omega)]
  omega
theorem sq_iff {k s j x : Nat} : s_sq V k s j x = true ↔ (j = s ∨ V 128 j = 1 ∧ V 129 j = nI k) ∧ V 114 (s_tn V j) = V 114 (s_tn V s) ∧ am_n V 126 j ≤ x ∧ x ≤ am_n V 127 j := by
  unfold s_sq
  rw [Bool.and_eq_true_iff, Bool.and_eq_true_iff, Bool.or_eq_true_iff, decide_eq_true_iff, decide_eq_true_iff, decide_eq_true_iff, decide_eq_true_iff, and_assoc]
theorem dl_cnt {k s n a b : Nat} {mm : Nat → Nat} (hv : Inv V) (hg : w_ga V (nI k) mm n) (hs : s < am_n V 113 14) (hcl : s_any (fun i => s_ov V (mm i) s) n = false) (hab : a ≤ b + 1) : n_dl V mm s a b n = s_cnt (s_sp V k s (am_n V 113 14)) (b + 1) - s_cnt (s_sp V k s (am_n V 113 14)) a := by
  have hn2 := hv.1.2.2.2.1.2
  have no : ∀ i, i < n → ¬ (am_n V 126 (mm i) ≤ am_n V 127 s ∧ am_n V 126 s ≤ am_n V 127 (mm i)) := fun i hi q => by
    have g := (hg.1 i hi).1
    have := s_any_of (P := fun i => s_ov V (mm i) s) hi ((ov_nat hv (by omega) (by omega)).mpr q)
    rw [hcl] at this; exact Bool.noConfusion this
  have key := cnt_sum (P := fun i => decide (V 114 (s_tn V (mm i)) = V 114 (s_tn V s))) (g := fun i => n_cv (am_n V 126 (mm i)) (am_n V 127 (mm i))) (f0 := n_cv (am_n V 126 s) (am_n V 127 s)) (f := s_sp V k s (am_n V 113 14)) (n := n) (fun x => ?_)
  · have hft := (hv.2.2.2.1.2 s hs).1.1
    have e : n_sum (fun i => decide (V 114 (s_tn V (mm i)) = V 114 (s_tn V s))) (fun i => n_dw (am_n V 126 (mm i)) (am_n V 127 (mm i)) a b) n = n_sum (fun i => decide (V 114 (s_tn V (mm i)) = V 114 (s_tn V s))) (fun i => s_cnt (n_cv (am_n V 126 (mm i)) (am_n V 127 (mm i))) (b + 1) - s_cnt (n_cv (am_n V 126 (mm i)) (am_n V 127 (mm i))) a) n := n_sum_congr n (fun i hi => dw_cnt hab (hv.2.2.2.1.2 (mm i) (hg.1 i hi).1).1.1)
    have e2 := n_sum_sub (P := fun i => decide (V 114 (s_tn V (mm i)) = V 114 (s_tn V s))) (x := fun i => s_cnt (n_cv (am_n V 126 (mm i)) (am_n V 127 (mm i))) (b + 1)) (y := fun i => s_cnt (n_cv (am_n V 126 (mm i)) (am_n V 127 (mm i))) a) n (fun i _ => cnt_up hab)
    have u := cnt_up (f := n_cv (am_n V 126 s) (am_n V 127 s)) hab
    unfold n_dl
    rw [dw_cnt hab hft, e, e2.1, key (b + 1), key a]
    have := e2.2
    omega
  · rw [n_sum_one (P := fun i => decide (V 114 (s_tn V (mm i)) = V 114 (s_tn V s))) (c := fun i => n_cv (am_n V 126 (mm i)) (am_n V 127 (mm i)) x) n (fun i j hi hj _ _ c1 c2 => ?_)]
    · have f1 : s_sp V k s (am_n V 113 14) x = true ↔ n_cv (am_n V 126 s) (am_n V 127 s) x = true ∨ s_any (fun i => decide (V 114 (s_tn V (mm i)) = V 114 (s_tn V s)) && n_cv (am_n V 126 (mm i)) (am_n V 127 (mm i)) x) n = true := by
        constructor
        · intro q
          obtain ⟨j, hj, e⟩ := s_any_ex q
          obtain ⟨e1, e2, e3⟩ := sq_iff.mp e
          rcases e1 with e1 | e1
          · subst e1; exact Or.inl (decide_eq_true e3)
          · obtain ⟨i, hi, w⟩ := hg.2.1 j hj e1.1 e1.2
            refine Or.inr (s_any_of hi ?_)
            rw [w, decide_eq_true e2]
            exact decide_eq_true e3
        · rintro (q | q)
          · exact s_any_of hs (sq_iff.mpr ⟨Or.inl rfl, rfl, decide_eq_true_iff.mp q⟩)
          · obtain ⟨i, hi, e⟩ := s_any_ex q
            obtain ⟨e1, e2⟩ := Bool.and_eq_true_iff.mp e
            have g := hg.1 i hi
            exact s_any_of g.1 (sq_iff.mpr ⟨Or.inr g.2, decide_eq_true_iff.mp e1, decide_eq_true_iff.mp e2⟩)
      by_cases c1 : n_cv (am_n V 126 s) (am_n V 127 s) x = true
      · have c2 : ¬ s_any (fun i => decide (V 114 (s_tn V (mm i)) = V 114 (s_tn V s)) && n_cv (am_n V 126 (mm i)) (am_n V 127 (mm i)) x) n = true := fun q => by
          obtain ⟨i, hi, e⟩ := s_any_ex q
          have e2 := decide_eq_true_iff.mp (Bool.and_eq_true_iff.mp e).2
          have e3 := decide_eq_true_iff.mp c1
          exact no i hi ⟨by omega, by omega⟩
        rw [if_pos (f1.mpr (Or.inl c1)), if_pos c1, if_neg c2]
      · by_cases c2 : s_any (fun i => decide (V 114 (s_tn V (mm i)) = V 114 (s_tn V s)) && n_cv (am_n V 126 (mm i)) (am_n V 127 (mm i)) x) n = true
        · rw [if_pos (f1.mpr (Or.inr c2)), if_neg c1, if_pos c2]
        · rw [if_neg (fun q => (f1.mp q).elim c1 c2), if_neg c1, if_neg c2]
    · have d1 := decide_eq_true_iff.mp c1
      have d2 := decide_eq_true_iff.mp c2
      have g1 := hg.1 i hi
      have g2 := hg.1 j hj
      by_cases e : mm i = mm j
      · exact hg.2.2 i j hi hj e
      · have w := hv.2.2.2.2.1 (mm i) (mm j) g1.1 g2.1 e g1.2.1 g2.2.1 (g1.2.2.trans g2.2.2.symm)
        exfalso; omega
/-- too long by the class's windows -/
theorem visa_iff {k s n : Nat} {mm : Nat → Nat} (hv : Inv V) (hg : w_ga V (nI k) mm n) (hs : s < am_n V 113 14) (hcl : s_any (fun i => s_ov V (mm i) s) n = false) : s_visa V k s = true ↔ am_n V 116 (am_n V 114 (s_tn V s)) < n_dl V mm s (am_n V 126 s) (am_n V 126 s + 179) n ∨ ∃ i, i < n ∧ am_n V 116 (am_n V 114 (s_tn V s)) < n_dl V mm s (am_n V 126 (mm i)) (am_n V 126 (mm i) + 179) n := by
  have hn2 := hv.1.2.2.2.1.2
  have hb : ∀ j, j < am_n V 113 14 → am_n V 126 j ≤ 1500 ∧ am_n V 127 j ≤ 1500 := fun j hj => by
    have w := hv.2.2.2.1.1 j (by omega)
    have w1 := w.2.1.2
    have w2 := w.2.2.1.2
    omega
  have wi := win_iff (f := s_sp V k s (am_n V 113 14)) (lim := am_n V 116 (am_n V 114 (s_tn V s))) (S := fun a => ∃ j, j < am_n V 113 14 ∧ (j = s ∨ V 128 j = 1 ∧ V 129 j = nI k) ∧ a = am_n V 126 j) (fun y hy => ?_) (fun a ha => ?_) (fun x hx => ?_)
  · have ee : ∀ j, n_dl V mm s (am_n V 126 j) (am_n V 126 j + 179) n = s_cnt (s_sp V k s (am_n V 113 14)) (am_n V 126 j + 180) - s_cnt (s_sp V k s (am_n V 113 14)) (am_n V 126 j) := fun j => dl_cnt hv hg hs hcl (by omega)
    constructor
    · intro q
      obtain ⟨x, hx, e⟩ := s_any_ex q
      obtain ⟨a, ⟨j, hj, h1, h2⟩, h3⟩ := wi.mp ⟨x, hx, decide_eq_true_iff.mp e⟩
      subst h2
      rw [← ee] at h3
      rcases h1 with h1 | h1
      · subst h1; exact Or.inl h3
      · obtain ⟨i, hi, w⟩ := hg.2.1 j hj h1.1 h1.2
        exact Or.inr ⟨i, hi, by rw [w]; exact h3⟩
    · intro q
      have : ∃ a, (∃ j, j < am_n V 113 14 ∧ (j = s ∨ V 128 j = 1 ∧ V 129 j = nI k) ∧ a = am_n V 126 j) ∧ am_n V 116 (am_n V 114 (s_tn V s)) < s_cnt (s_sp V k s (am_n V 113 14)) (a + 180) - s_cnt (s_sp V k s (am_n V 113 14)) a := by
        rcases q with q | ⟨i, hi, q⟩
        · rw [ee] at q
          exact ⟨_, ⟨s, hs, Or.inl rfl, rfl⟩, q⟩
        · rw [ee] at q
          have g := hg.1 i hi
          exact ⟨_, ⟨mm i, g.1, Or.inr g.2, rfl⟩, q⟩
      obtain ⟨x, hx, e⟩ := wi.mpr this
      exact s_any_of hx (decide_eq_true e)
  · obtain ⟨j, hj, e⟩ := s_any_ex hy
    obtain ⟨e1, e2, e3⟩ := sq_iff.mp e
    exact ⟨am_n V 126 j, ⟨j, hj, e1, rfl⟩, e3.1, fun x h1 h2 => s_any_of hj (sq_iff.mpr ⟨e1, e2, h1, by omega⟩)⟩
  · obtain ⟨j, hj, _, e⟩ := ha
    have := hb j hj
    omega
  · apply Bool.eq_false_iff.mpr
    intro q
    obtain ⟨j, hj, e⟩ := s_any_ex q
    have e3 := (sq_iff.mp e).2.2.2
    have := hb j hj
    omega
end LO
