/-! isTooLongInLand, whyNotByDays -/
section LO2
variable {d : Nat} {I V : am_V} {L : Nat → Nat → Int64} {R : am_R}
theorem ok_Ru_isTooLong {k s n : Nat} {mm : Nat → Nat} (hd : 4 ≤ d) (hw : w_rc I V) (hv : Inv V) (hm : w_mn I mm n) (hg : w_ga V (nI k) mm n) (hs : s < am_n V 113 14) (hcl : s_any (fun i => s_ov V (mm i) s) n = false) (h1 : s_visa V k s = true → R (some (.int 1)) (am_mk I L, 0, 0)) (h0 : s_visa V k s = false → R (some (.int 0)) (am_mk I L, 0, 0)) : am_meth d 104 [.ref 99, .int (nI s)] (am_mk I L, 0, 0) R := by
  obtain ⟨d, rfl⟩ : ∃ e, d = e + 1 := ⟨d - 1, by omega⟩
  obtain ⟨q0, q17, q67, q68, q69, q43, q3, q4, qh⟩ := id hw
  have hn2 := hv.1.2.2.2.1.2
  have hm2 := hm.2.1
  have h60 : s < 60 := by omega
  have n67 : ∀ j, am_n I 67 j = am_n V 125 j := fun j => by unfold am_n; rw [q67]
  have ix67 : am_ix I 67 s 20 := by unfold am_ix am_n; rw [q67]; exact (hv.2.2.2.1.1 s h60).1
  have ix43 : am_ix I 43 (am_n I 67 s) 10 := by
    rw [n67]; unfold am_ix am_n; rw [q43]; exact (hv.2.2.1 _ (hv.2.2.2.1.1 s h60).1.2).2.2.2.1
  have la : I 3 (am_n I 43 (am_n I 67 s)) = V 114 (s_tn V s) := by rw [n67, q3]; unfold s_tn am_n; rw [q43]
  have ln := hv.2.1.1 (s_tn V s) (tn_ix hv h60).2
  have li := hv.2.1.2.2 (am_n V 114 (s_tn V s)) ln.2
  have li2 := li.2
  have vi := visa_iff hv hg hs hcl
  have fr : ∀ j, j < 60 → I 68 j = nI (am_n V 126 j) ∧ am_n V 126 j ≤ 1500 := fun j hj => by
    have w := (hv.2.2.2.1.1 j hj).2.1
    have w2 := w.2
    rw [q68]; exact ⟨w.1, by omega⟩
  have f179 : ∀ j, j < 60 → I 68 j + 180 - 1 = nI (am_n V 126 j + 179) := fun j hj => by
    rw [(fr j hj).1, show (180 : Int32) = nI 180 from rfl, nI_add, show am_n V 126 j + 180 = am_n V 126 j + 179 + 1 from by omega, nI_pred]
  have bd : ∀ a b, a ≤ b + 1 → n_dl V mm s a b n ≤ b + 1 := fun a b hab => by
    rw [dl_cnt hv hg hs hcl hab]
    have := cnt_le (S := s_sp V k s (am_n V 113 14)) (b + 1)
    omega
  refine ar_in rfl rfl rfl (r_Rules_isTooLongInLand_0 (by omega) ⟨h60, ix67, ix43, am_n V 114 (s_tn V s), ln.2, by rw [la]; exact ln.1, ?_⟩)
  have b0 := bd 0 1500 (by omega)
  refine ok_Ru_daysInLand (a := 0) (b := 1500) (by omega) hw hv hm h60 (by omega) (by omega) ⟨_, _, _, rfl, rfl, ?_⟩
  dsimp only
  rw [q4, li.1, nI_leI (by omega) (by omega)]
  refine ⟨fun c => h0 ?_, fun c => ⟨h60, ?_⟩⟩
  · apply Bool.eq_false_iff.mpr
    intro q
    obtain ⟨x, hx, e⟩ := s_any_ex q
    have e2 := decide_eq_true_iff.mp e
    rw [dl_cnt hv hg hs hcl (by omega)] at c
    have u := cnt_up (f := s_sp V k s (am_n V 113 14)) (a := x + 1) (b := 1500 + 1) (by omega)
    have z : s_cnt (s_sp V k s (am_n V 113 14)) 0 = 0 := rfl
    unfold s_win at e2
    omega
  · have fs := fr s h60
    have b1 := bd (am_n V 126 s) (am_n V 126 s + 179) (by omega)
    rw [f179 s h60, fs.1]
    refine ok_Ru_daysInLand (a := am_n V 126 s) (b := am_n V 126 s + 179) (by omega) hw hv hm h60 (by omega) (by omega) ⟨_, _, _, rfl, rfl, ?_⟩
    dsimp only
    rw [nI_leI (by omega) (by omega)]
    refine ⟨fun c2 => ?_, fun c2 => h1 (vi.mpr (Or.inl (by omega)))⟩
    refine am_up (P := fun i => (∀ x, x < i → n_dl V mm s (am_n V 126 (mm x)) (am_n V 126 (mm x) + 179) n ≤ am_n V 116 (am_n V 114 (s_tn V s))) → am_Run am_X0 (am_meth d) 104 R 66 [some (.ref 99), some (.int (nI s)), some (.int (nI (am_n V 116 (am_n V 114 (s_tn V s))))), some (.int (nI i)), none] [] (am_mk I L, 0, 0)) (n := n) (fun hf => ?_) (fun i hi ih hf => ?_) (fun x hx => absurd hx (Nat.not_lt_zero x))
    · refine r_Rules_isTooLongInLand_66 ⟨fun c => absurd (hm.1 ▸ c) (nI_nlt (Nat.le_refl _) (by omega)), fun _ => h0 ?_⟩
      apply Bool.eq_false_iff.mpr
      intro q
      rcases vi.mp q with q | ⟨i, hi, q⟩
      · omega
      · have := hf i hi; omega
    · have w := hm.2.2 i hi
      have fm := fr (mm i) w.2
      have b2 := bd (am_n V 126 (mm i)) (am_n V 126 (mm i) + 179) (by omega)
      refine r_Rules_isTooLongInLand_66 ⟨fun _ => ⟨by omega, mm i, w.2, w.1, ?_⟩, fun c => absurd (by rw [hm.1]; exact nI_lt hi (by omega)) c⟩
      rw [f179 _ w.2, fm.1]
      refine ok_Ru_daysInLand (a := am_n V 126 (mm i)) (b := am_n V 126 (mm i) + 179) (by omega) hw hv hm h60 (by omega) (by omega) ⟨_, _, _, rfl, rfl, ?_⟩
      dsimp only
      rw [nI_leI (by omega) (by omega)]
      refine ⟨fun c3 => ih (fun x hx => ?_), fun c3 => h1 (vi.mpr (Or.inr ⟨i, hi, by omega⟩))⟩
      by_cases e : x = i
      · subst e; exact c3
      · exact hf x (by omega)
theorem meets_e {k s n : Nat} {mm : Nat → Nat} (hg : w_ga V (nI k) mm n) : s_any (fun i => s_ov V (mm i) s) n = s_meets V k s := by
  unfold s_meets
  rcases q : s_any (fun j => decide (V 128 j = 1 ∧ V 129 j = nI k) && s_ov V j s) (am_n V 113 14) with _ | _
  · apply Bool.eq_false_iff.mpr
    intro w
    obtain ⟨i, hi, e⟩ := s_any_ex w
    have g := hg.1 i hi
    have := s_any_of (P := fun j => decide (V 128 j = 1 ∧ V 129 j = nI k) && s_ov V j s) g.1 (by rw [decide_eq_true g.2]; exact e)
    rw [q] at this; exact Bool.noConfusion this
  · obtain ⟨j, hj, e⟩ := s_any_ex q
    obtain ⟨e1, e2⟩ := Bool.and_eq_true_iff.mp e
    have e3 := decide_eq_true_iff.mp e1
    obtain ⟨i, hi, w⟩ := hg.2.1 j hj e3.1 e3.2
    exact s_any_of hi (by rw [w]; exact e2)
/-- why not, by days: 3, 4, 5, or 0 -/
def s_wd (V : am_V) (k s : Nat) : Int32 := if s_meets V k s = true then 3 else if s_late V k s = true then 4 else if s_visa V k s = true then 5 else 0
theorem ok_Ru_whyNotByDays {k s n : Nat} {mm : Nat → Nat} (hd : 5 ≤ d) (hw : w_rc I V) (hv : Inv V) (hm : w_mn I mm n) (hg : w_ga V (nI k) mm n) (hk : k < 20) (hs : s < am_n V 113 14) (h : R (some (.int (s_wd V k s))) (am_mk I L, 0, 0)) : am_meth d 98 [.ref 99, .int (nI k), .int (nI s)] (am_mk I L, 0, 0) R := by
  obtain ⟨d, rfl⟩ : ∃ e, d = e + 1 := ⟨d - 1, by omega⟩
  refine ar_in rfl rfl rfl (r_Rules_whyNotByDays_0 ?_)
  have em := meets_e (s := s) hg
  unfold s_wd at h
  refine ok_Ru_clashes (by omega) hw hv hm (fun i hi => (hg.1 i hi).1) hs (fun c => ⟨_, _, _, rfl, rfl, fun z => absurd z (by decide), fun _ => ?_⟩) (fun c => ⟨_, _, _, rfl, rfl, fun _ => ?_, fun z => absurd rfl z⟩)
  · rw [em] at c
    rw [if_pos c] at h; exact h
  · have c' := c
    rw [em] at c'
    rw [if_neg (by rw [c']; decide)] at h
    refine ok_Ru_isTooFar (by omega) hw hv hm hg hk hs (fun c2 => ⟨_, _, _, rfl, rfl, fun z => absurd z (by decide), fun _ => ?_⟩) (fun c2 => ⟨_, _, _, rfl, rfl, fun _ => ?_, fun z => absurd rfl z⟩)
    · rw [if_pos c2] at h; exact h
    · rw [if_neg (by rw [c2]; decide)] at h
      refine ok_Ru_isTooLong (by omega) hw hv hm hg hs c (fun c3 => ⟨_, _, _, rfl, rfl, fun z => absurd z (by decide), fun _ => ?_⟩) (fun c3 => ⟨_, _, _, rfl, rfl, fun _ => ?_, fun z => absurd rfl z⟩)
      · rw [if_pos c3] at h; exact h
      · rw [if_neg (by rw [c3]; decide)] at h; exact h
end LO2
