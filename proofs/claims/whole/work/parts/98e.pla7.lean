/-! places: the reference's call -/
section PE
variable {d : Nat} {I V : am_V} {L : Nat → Nat → Int64} {R : am_R}
theorem ok_M_makePlaces (hd : 10 ≤ d) (hm : RM I V) (hv : Inv V) (hx : w_Tx V) (ha : s_alo V = true) (h6 : s_rl V ≤ 6) (h : ∀ I' L', RM I' V → am_lo I' I → (∀ p, p < s_rl V → I' 155 p = s_pla V p) → I' 113 50 = nI (s_plh V) → I' 113 51 = nI (s_plc V) → R none (am_mk I' L', 0, 0)) : am_meth d 230 [.ref 113] (am_mk I L, 0, 0) R := by
  have hk2 := hv.1.2.1.2
  obtain ⟨a, va, ea, hmin⟩ := B_ex h6
  rw [← ea] at hmin
  have oa := va_ok (show am_n V 113 4 ≤ 20 by omega) va
  have dig : ∀ p, p < s_rl V → s_pl V p = t_dg (a p) := fun p hp => by
    unfold s_pl
    rw [← ea]; exact W_digit oa h6 hp
  refine ok_M_makePlaces0 hd hm hv hx ha h6 va hmin (fun I' L' w => h I' L' w.1.1 w.2.1 (fun p hp => ?_) ?_ ?_)
  · rw [w.2.2.1 p hp]
    unfold s_pla
    rw [dig p hp]
    cases e : a p with
    | none => rw [if_pos (show t_dg none = 20 from rfl)]; rfl
    | some k => have := oa p k e; rw [if_neg (show ¬ t_dg (some k) = 20 from by show ¬ k = 20; omega)]; rfl
  · rw [w.2.2.2.1]
    unfold s_plh
    rw [← ea, W_hours hN_le oa h6]
  · rw [w.2.2.2.2]
    unfold s_plc
    have key : ∀ r, r ≤ s_rl V → s_cnt (fun p => !decide (s_pl V p = 20)) r = t_s t_1 a r := by
      intro r
      induction r with
      | zero => exact fun _ => rfl
      | succ r ih =>
        intro hr
        show _ = t_s t_1 a r + t_1 r (a r)
        have dg := dig r (by omega)
        cases e : a r with
        | none =>
          rw [e] at dg
          rw [cnt_f (by rw [dg]; decide), ih (by omega)]; rfl
        | some k =>
          rw [e] at dg
          have := oa r k e
          have dg : s_pl V r = k := dg
          rw [cnt_t (by rw [dg, decide_eq_false (by omega)]; rfl), ih (by omega)]; rfl
    rw [key _ (Nat.le_refl _)]
theorem M_place {x : Int32} (hd : 11 ≤ d) (hx : w_Tx V) (hm : RM I V) (hv : Inv V) (h : ∀ I' L', RM I' (o_place V x).2 → am_lo I' I → R (some (.int (o_place V x).1)) (am_mk I' L', 0, 0)) : am_meth d 229 [.ref 113, .int x] (am_mk I L, 0, 0) R := by
  obtain ⟨d, rfl⟩ : ∃ e, d = e + 1 := ⟨d - 1, by omega⟩
  have hr := rl_12 hv
  have n7 : I 113 39 = V 113 39 := hm.2 39 rfl
  refine ar_in rfl rfl rfl (r_M_place_0 ?_)
  unfold o_place at h
  refine ok_M_bars (by omega) hm hv ⟨_, _, _, rfl, rfl, fun c => ?_, fun c => ?_⟩
  · have c0 : ¬ s_bar V = 0 := fun e => by rw [e] at c; exact absurd c (by decide)
    rw [if_neg c0] at h
    exact ok_noX (by omega) hm c0 (fun I' L' a b => ⟨_, _, _, rfl, rfl, h I' L' a b⟩)
  · have c0 : s_bar V = 0 := by
      rcases Classical.em (s_bar V = 0) with q | q
      · exact q
      · exact absurd (bar_n q).2.2 c
    rw [if_pos c0] at h
    obtain ⟨ha, ho, h6⟩ := bar_0 hv c0
    rw [n7]
    have t10 : ¬ (0 ≤ x ∧ x < V 113 39) → (x = 10 → am_meth d 230 [.ref 113] (am_mk I L, 0, 0) (am_rv (fun I9 L10 => R (some (.int (I9 113 50))) (am_mk I9 L10, 0, 0)))) ∧ (¬ x = 10 → ((x = 11 → am_meth d 230 [.ref 113] (am_mk I L, 0, 0) (am_rv (fun I9 L10 => R (some (.int (I9 113 51))) (am_mk I9 L10, 0, 0)))) ∧ (¬ x = 11 → am_meth d 151 [.ref 113, .int (-2 : Int32)] (am_mk I L, 0, 0) (am_ri (fun z I17 L18 => R (some (.int z)) (am_mk I17 L18, 0, 0)))))) := by
      intro q
      rw [if_neg q] at h
      refine ⟨fun c1 => ?_, fun c1 => ⟨fun c2 => ?_, fun c2 => ?_⟩⟩
      · rw [if_pos c1] at h
        refine ok_M_makePlaces (by omega) hm hv hx ha h6 (fun I2 L2 w1 w2 w3 w4 w5 => ⟨_, _, rfl, rfl, ?_⟩)
        dsimp only
        rw [w4]; exact h I2 L2 w1 w2
      · rw [if_neg c1, if_pos c2] at h
        refine ok_M_makePlaces (by omega) hm hv hx ha h6 (fun I2 L2 w1 w2 w3 w4 w5 => ⟨_, _, rfl, rfl, ?_⟩)
        dsimp only
        rw [w5]; exact h I2 L2 w1 w2
      · rw [if_neg c1, if_neg c2] at h
        exact ok_no (j := 2) (by omega) (by decide) (by decide) ⟨_, _, _, rfl, rfl, h _ _ (RM_no hm) (lo_up (by decide) lo_r)⟩
    refine ⟨fun c1 => t10 (fun z => absurd c1 (Int32.not_lt.mpr z.1)), fun c1 => ⟨fun c2 => ?_, fun c2 => t10 (fun z => c2 z.2)⟩⟩
    rw [if_pos ⟨Int32.not_lt.mp c1, c2⟩] at h
    rw [hr.1] at c2
    obtain ⟨p, hp, rfl⟩ := am_nat (x := x) ⟨Int32.not_lt.mp c1, c2⟩ (by omega)
    rw [nI_clamp (by omega)] at h
    have hp6 : p < 6 := by omega
    refine ok_M_makePlaces (by omega) hm hv hx ha h6 (fun I2 L2 w1 w2 w3 w4 w5 => ⟨_, _, rfl, rfl, fun z => ?_, fun _ => ⟨fun z => ?_, fun _ => ⟨p, hp6, rfl, ?_⟩⟩⟩)
    · rw [show (10 : Int32) = nI 10 from rfl, nI_eq (by omega) (by decide)] at z; omega
    · rw [show (11 : Int32) = nI 11 from rfl, nI_eq (by omega) (by decide)] at z; omega
    · rw [w3 p hp]
      exact h I2 L2 w1 w2
end PE
