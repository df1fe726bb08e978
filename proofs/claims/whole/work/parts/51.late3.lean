/-! the way, on both sides -/
section LT3
variable {d : Nat} {I V : am_V} {L : Nat → Nat → Int64} {R : am_R}
theorem tn_ix {s : Nat} (hv : Inv V) (hs : s < 60) : V 122 (am_n V 125 s) = nI (s_tn V s) ∧ s_tn V s < 10 := (hv.2.2.1 (am_n V 125 s) (hv.2.2.2.1.1 s hs).1.2).2.2.2.1
theorem ok_Ru_isTooFar {k s n : Nat} {mm : Nat → Nat} (hd : 3 ≤ d) (hw : w_rc I V) (hv : Inv V) (hm : w_mn I mm n) (hg : w_ga V (nI k) mm n) (hk : k < 20) (hs : s < am_n V 113 14) (h1 : s_late V k s = true → R (some (.int 1)) (am_mk I L, 0, 0)) (h0 : s_late V k s = false → R (some (.int 0)) (am_mk I L, 0, 0)) : am_meth d 100 [.ref 99, .int (nI k), .int (nI s)] (am_mk I L, 0, 0) R := by
  obtain ⟨d, rfl⟩ : ∃ e, d = e + 1 := ⟨d - 1, by omega⟩
  refine ar_in rfl rfl rfl (r_Rules_isTooFar_0 (by omega) ?_)
  have hn2 := hv.1.2.2.2.1.2
  obtain ⟨q0, q17, q67, q68, q69, q43, q3, q4, qh⟩ := id hw
  have h60 : s < 60 := by omega
  have ix67 : ∀ j, j < 60 → am_ix I 67 j 20 := fun j hj => by
    unfold am_ix am_n; rw [q67]; exact (hv.2.2.2.1.1 j hj).1
  have t43 : ∀ j, j < 60 → I 43 (am_n I 67 j) = nI (s_tn V j) := fun j hj => by
    have := (tn_ix hv hj).1
    rw [q43, ← this]; unfold am_n; rw [q67]
  have t10 : ∀ j, j < 60 → s_tn V j < 10 := fun j hj => (tn_ix hv hj).2
  have k17 := (hv.2.2.1 k hk).1
  have sec : (s_lt2 V k s = true → R (some (.int 1)) (am_mk I L, 0, 0)) → (s_lt2 V k s = false → R (some (.int 0)) (am_mk I L, 0, 0)) → am_meth d 103 [.ref 99, .int (nI s)] (am_mk I L, 0, 0) (am_ri (fun z_16 I_17 L_18 => ((z_16 = (-9 : Int32) → (R (some (.int 0)) (am_mk I_17 L_18, 0, 0))) ∧ (¬ z_16 = (-9 : Int32) → (∃ j_20 : Nat, j_20 < 60 ∧ z_16 = nI j_20 ∧ ((s < 60) ∧ ((am_ix I_17 67 s 20) ∧ ((j_20 < 60) ∧ ((am_ix I_17 67 j_20 20) ∧ (∃ j_27 : Nat, I_17 43 (am_n I_17 67 s) = nI j_27 ∧ (∃ j_29 : Nat, I_17 43 (am_n I_17 67 j_20) = nI j_29 ∧ ((j_27 < 10) ∧ ((j_29 < 10) ∧ (((((I_17 68 j_20) - (I_17 69 s)) < ((I_17 (6 + j_27) j_29 + 23) / 24) → (R (some (.int 1)) (am_mk I_17 L_18, 0, 0))) ∧ (¬ ((I_17 68 j_20) - (I_17 69 s)) < ((I_17 (6 + j_27) j_29 + 23) / 24) → (R (some (.int 0)) (am_mk I_17 L_18, 0, 0)))))))))))))))))) := by
    intro g1 g0
    unfold s_lt2 at g1 g0
    refine ok_Ru_firstOf (by omega) hw hv hm hg hs ⟨_, _, _, rfl, rfl, ?_⟩
    cases e : s_nxt V (nI k) (V 127 s) (am_n V 113 14) with
    | none =>
      rw [e] at g0
      exact ⟨fun _ => g0 rfl, fun q => absurd rfl q⟩
    | some q =>
      have hq := ((w_F_nxt (V := V) (k := nI k) (day := V 127 s) (am_n V 113 14)).2 q e).1
      have hq60 : q < 60 := by omega
      rw [e] at g0 g1
      refine ⟨fun z => absurd z (on_ne hq60), fun _ => ⟨q, hq60, rfl, h60, ix67 s h60, hq60, ix67 q hq60, s_tn V s, t43 s h60, s_tn V q, t43 q hq60, t10 s h60, t10 q hq60, ?_⟩⟩
      rw [qh _ _ (t10 s h60) (t10 q hq60), q68, q69]
      exact ⟨fun c => g1 (show s_far V (s_tn V s) (s_tn V q) (V 126 q - V 127 s) = true from decide_eq_true_iff.mpr c), fun c => g0 (show s_far V (s_tn V s) (s_tn V q) (V 126 q - V 127 s) = false from decide_eq_false c)⟩
  have fin : ∀ b : Bool, s_lt1 V k s = b → (b = true → R (some (.int 1)) (am_mk I L, 0, 0)) ∧ (b = false → (s_lt2 V k s = true → R (some (.int 1)) (am_mk I L, 0, 0)) ∧ (s_lt2 V k s = false → R (some (.int 0)) (am_mk I L, 0, 0))) := fun b hb => by
    unfold s_late at h1 h0
    rw [hb] at h1 h0
    refine ⟨fun e => h1 (by rw [e, Bool.true_or]), fun e => ⟨fun e2 => h1 (by rw [e, e2]; rfl), fun e2 => h0 (by rw [e, e2]; rfl)⟩⟩
  refine ok_Ru_lastOf (by omega) hw hv hm hg hs ⟨_, _, _, rfl, rfl, ?_⟩
  cases e : s_last V (nI k) (V 126 s) (am_n V 113 14) with
  | none =>
    have l1 : s_lt1 V k s = s_far V (am_n V 117 k) (s_tn V s) (V 126 s - V 113 0) := by unfold s_lt1; rw [e]
    have f := fin _ l1
    refine ⟨fun _ => ⟨hk, h60, h60, ix67 s h60, am_n V 117 k, by rw [q17]; exact k17.1, s_tn V s, t43 s h60, k17.2, t10 s h60, ?_⟩, fun q => absurd rfl q⟩
    rw [qh _ _ k17.2 (t10 s h60), q68, q0]
    refine ⟨fun c => f.1 (decide_eq_true_iff.mpr c), fun c => ?_⟩
    have g := f.2 (decide_eq_false c)
    exact sec g.1 g.2
  | some p =>
    have hp := s_last_lt e
    have hp60 : p < 60 := by omega
    have l1 : s_lt1 V k s = s_far V (s_tn V p) (s_tn V s) (V 126 s - V 127 p) := by unfold s_lt1; rw [e]
    have f := fin _ l1
    refine ⟨fun q => absurd q (on_ne hp60), fun _ => ⟨p, rfl, hp60, ix67 p hp60, p, hp60, rfl, h60, h60, ix67 s h60, s_tn V p, t43 p hp60, s_tn V s, t43 s h60, t10 p hp60, t10 s h60, ?_⟩⟩
    rw [qh _ _ (t10 p hp60) (t10 s h60), q68, q69]
    refine ⟨fun c => f.1 (decide_eq_true_iff.mpr c), fun c => ?_⟩
    have g := f.2 (decide_eq_false c)
    exact sec g.1 g.2
end LT3
