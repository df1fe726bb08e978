/-! why, take, worth -/
def w_tk (V : am_V) (k s : Nat) : am_V := va_up (va_up V 128 (upd (V 128) s 1)) 129 (upd (V 129) s (nI k))
def o_why (V : am_V) (k s : Int32) : Int32 × am_V := if (0 ≤ k ∧ k < V 113 4) ∧ (0 ≤ s ∧ s < V 113 14) then (s_why V k.toNatClampNeg s.toNatClampNeg, V) else o_no V 1 (-1)
def o_take (V : am_V) (k s : Int32) : Int32 × am_V := if (0 ≤ k ∧ k < V 113 4) ∧ (0 ≤ s ∧ s < V 113 14) then (if s_why V k.toNatClampNeg s.toNatClampNeg = 0 then (1, w_tk V k.toNatClampNeg s.toNatClampNeg) else o_no V 3 (-3)) else o_no V 1 (-1)
def o_worth (V : am_V) (k s : Int32) : Int32 × am_V := if (0 ≤ k ∧ k < V 113 4) ∧ (0 ≤ s ∧ s < V 113 14) then (s_worth V k.toNatClampNeg s.toNatClampNeg, V) else o_far V 1 (-1)
section TK
variable {d : Nat} {I V : am_V} {L : Nat → Nat → Int64} {R : am_R}
theorem ix_k {k : Int32} (hv : Inv V) (c : 0 ≤ k ∧ k < V 113 4) : ∃ j, j < 20 ∧ k = nI j ∧ j < am_n V 113 4 := by
  have hk := hv.1.2.1
  have hk2 := hk.2
  rw [hk.1] at c
  obtain ⟨i, hi, rfl⟩ := am_nat c (by omega)
  exact ⟨i, by omega, rfl, hi⟩
theorem ix_s {s : Int32} (hv : Inv V) (c : 0 ≤ s ∧ s < V 113 14) : ∃ j, j < 60 ∧ s = nI j ∧ j < am_n V 113 14 := by
  have hk := hv.1.2.2.2.1
  have hk2 := hk.2
  rw [hk.1] at c
  obtain ⟨i, hi, rfl⟩ := am_nat c (by omega)
  exact ⟨i, by omega, rfl, hi⟩
theorem C_why {k s : Int32} (hd : 9 ≤ d) (hc : RC I V) (hv : Inv V) (h : ∀ I' L', RC I' (o_why V k s).2 → am_hi I' I → R (some (.int (o_why V k s).1)) (am_mk I' L', 0, 0)) : am_meth d 11 [.ref 0, .int k, .int s] (am_mk I L, 0, 0) R := by
  obtain ⟨d, rfl⟩ : ∃ e, d = e + 1 := ⟨d - 1, by omega⟩
  refine ar_in rfl rfl rfl (r_H_why_0 (by omega) ?_)
  obtain ⟨⟨n1, n2, n3, n4, n5, n6, n7, n8⟩, ⟨e1, e2, e3, e4, e5, e6, e7, e8, e9, e10, e11, e12, e13, e14, e15, e16, e17⟩, -⟩ := id hc
  rw [n1, n4]
  unfold o_why at h
  refine ⟨fun c => ⟨fun c2 => ?_, fun c2 => ?_⟩, fun c => ?_⟩
  · rw [if_pos ⟨c, c2⟩] at h
    obtain ⟨i, i1, rfl, i2⟩ := ix_k hv c
    obtain ⟨j, j1, rfl, j2⟩ := ix_s hv c2
    rw [nI_clamp (by omega), nI_clamp (by omega)] at h
    exact ok_Ru_whyNot (by omega) hc hv i1 j2 (fun I' L' a b => ⟨_, _, _, rfl, rfl, h I' L' a b⟩)
  · rw [if_neg (fun q => c2 q.2)] at h; (exact h _ _ (RC_no hc) (hi_up (by decide) hi_r))
  · rw [if_neg (fun q => c q.1)] at h; (exact h _ _ (RC_no hc) (hi_up (by decide) hi_r))
theorem M_why {k s : Int32} (hd : 9 ≤ d) (hx : w_Tx V) (hm : RM I V) (hv : Inv V) (h : ∀ I' L', RM I' (o_why V k s).2 → am_lo I' I → R (some (.int (o_why V k s).1)) (am_mk I' L', 0, 0)) : am_meth d 163 [.ref 113, .int k, .int s] (am_mk I L, 0, 0) R := by
  obtain ⟨d, rfl⟩ : ∃ e, d = e + 1 := ⟨d - 1, by omega⟩
  refine ar_in rfl rfl rfl (r_M_why_0 (by omega) ?_)
  have mc := hm.1; have mf := hm.2
  rw [mf 4 rfl, mf 14 rfl]
  unfold o_why at h
  refine ⟨fun c => ⟨fun c2 => ?_, fun c2 => ?_⟩, fun c => ?_⟩
  · rw [if_pos ⟨c, c2⟩] at h
    obtain ⟨i, i1, rfl, i2⟩ := ix_k hv c
    obtain ⟨j, j1, rfl, j2⟩ := ix_s hv c2
    rw [nI_clamp (by omega), nI_clamp (by omega)] at h
    exact ok_M_whyNot (by omega) hm hv hx i1 j2 (fun I' L' a b => ⟨_, _, _, rfl, rfl, h I' L' a (mf_lo b)⟩)
  · rw [if_neg (fun q => c2 q.2)] at h; (exact h _ _ (RM_no hm) (lo_up (by decide) lo_r))
  · rw [if_neg (fun q => c q.1)] at h; (exact h _ _ (RM_no hm) (lo_up (by decide) lo_r))
theorem I_why {k s : Int32} (hv : Inv V) : Inv (o_why V k s).2 := by
  unfold o_why
  split
  · exact hv
  · exact hv
theorem C_worth {k s : Int32} (hd : 7 ≤ d) (hc : RC I V) (hv : Inv V) (h : ∀ I' L', RC I' (o_worth V k s).2 → am_hi I' I → R (some (.int (o_worth V k s).1)) (am_mk I' L', 0, 0)) : am_meth d 17 [.ref 0, .int k, .int s] (am_mk I L, 0, 0) R := by
  obtain ⟨d, rfl⟩ : ∃ e, d = e + 1 := ⟨d - 1, by omega⟩
  refine ar_in rfl rfl rfl (r_H_worth_0 (by omega) ?_)
  obtain ⟨⟨n1, n2, n3, n4, n5, n6, n7, n8⟩, ⟨e1, e2, e3, e4, e5, e6, e7, e8, e9, e10, e11, e12, e13, e14, e15, e16, e17⟩, -⟩ := id hc
  rw [n1, n4]
  unfold o_worth at h
  refine ⟨fun c => ⟨fun c2 => ?_, fun c2 => ?_⟩, fun c => ?_⟩
  · rw [if_pos ⟨c, c2⟩] at h
    obtain ⟨i, i1, rfl, i2⟩ := ix_k hv c
    obtain ⟨j, j1, rfl, j2⟩ := ix_s hv c2
    rw [nI_clamp (by omega), nI_clamp (by omega)] at h
    exact ok_Ru_worth (by omega) hc hv i1 j1 (fun I' L' a b _ => ⟨_, _, _, rfl, rfl, h I' L' a (k7_hi b)⟩)
  · rw [if_neg (fun q => c2 q.2)] at h; (exact h _ _ (RC_no hc) (hi_up (by decide) hi_r))
  · rw [if_neg (fun q => c q.1)] at h; (exact h _ _ (RC_no hc) (hi_up (by decide) hi_r))
theorem M_worth {k s : Int32} (hd : 8 ≤ d) (hx : w_Tx V) (hm : RM I V) (hv : Inv V) (h : ∀ I' L', RM I' (o_worth V k s).2 → am_lo I' I → R (some (.int (o_worth V k s).1)) (am_mk I' L', 0, 0)) : am_meth d 198 [.ref 113, .int k, .int s] (am_mk I L, 0, 0) R := by
  obtain ⟨d, rfl⟩ : ∃ e, d = e + 1 := ⟨d - 1, by omega⟩
  refine ar_in rfl rfl rfl (r_M_worth_0 (by omega) ?_)
  have mc := hm.1; have mf := hm.2
  rw [mf 4 rfl, mf 14 rfl]
  unfold o_worth at h
  refine ⟨fun c => ⟨fun c2 => ?_, fun c2 => ?_⟩, fun c => ?_⟩
  · rw [if_pos ⟨c, c2⟩] at h
    obtain ⟨i, i1, rfl, i2⟩ := ix_k hv c
    obtain ⟨j, j1, rfl, j2⟩ := ix_s hv c2
    rw [nI_clamp (by omega), nI_clamp (by omega)] at h
    exact ok_M_worthOf (by omega) hm hv hx i1 j1 (fun I' L' a b => ⟨_, _, _, rfl, rfl, h I' L' a (mf_lo b)⟩)
  · rw [if_neg (fun q => c2 q.2)] at h; (exact h _ _ (RM_no hm) (lo_up (by decide) lo_r))
  · rw [if_neg (fun q => c q.1)] at h; (exact h _ _ (RM_no hm) (lo_up (by decide) lo_r))
theorem I_worth {k s : Int32} (hv : Inv V) : Inv (o_worth V k s).2 := by
  unfold o_worth
  split
  · exact hv
  · exact hv
/-- what holds of a stay that one may take -/
theorem why_0 {k s : Nat} (h : s_why V k s = 0) : V 128 s = 0 ∧ s_meets V k s = false := by
  unfold s_why at h
  by_cases c : V 128 s = 0
  · refine ⟨c, ?_⟩
    rw [if_pos c] at h
    by_cases c2 : V 126 s ≤ V 113 0
    · rw [if_pos c2] at h; exact absurd h (by decide)
    · rw [if_neg c2] at h
      by_cases c3 : V 123 (am_n V 125 s) &&& (V 118 k ^^^ -1) = 0
      · rw [if_pos c3] at h
        by_cases c4 : s_wd V k s = 0
        · unfold s_wd at c4
          rcases q : s_meets V k s with _ | _
          · rfl
          · rw [if_pos q] at c4; exact absurd c4 (by decide)
        · rw [if_neg c4] at h; exact absurd h c4
      · rw [if_neg c3] at h; exact absurd h (by decide)
  · rw [if_neg c] at h; exact absurd h (by decide)
theorem meets_f {k s j : Nat} (hv : Inv V) (h : s_meets V k s = false) (hs : s < am_n V 113 14) (hj : j < am_n V 113 14) (h1 : V 128 j = 1) (h2 : V 129 j = nI k) : am_n V 127 s < am_n V 126 j ∨ am_n V 127 j < am_n V 126 s := by
  have hn2 := hv.1.2.2.2.1.2
  have a1 := hv.2.2.2.1.1 j (by omega)
  have a2 := hv.2.2.2.1.1 s (by omega)
  have q1 := a1.2.1.2
  have q2 := a1.2.2.1.2
  have q3 := a2.2.1.2
  have q4 := a2.2.2.1.2
  have nv : ¬ s_ov V j s = true := fun q => by
    have := s_any_of (P := fun j => decide (V 128 j = 1 ∧ V 129 j = nI k) && s_ov V j s) hj (by rw [decide_eq_true (show V 128 j = 1 ∧ V 129 j = nI k from ⟨h1, h2⟩), q]; rfl)
    unfold s_meets at h
    rw [h] at this; exact Bool.noConfusion this
  rw [ov_iff, a1.2.1.1, a1.2.2.1.1, a2.2.1.1, a2.2.2.1.1, nI_leI (by omega) (by omega), nI_ltI (by omega) (by omega)] at nv
  omega
theorem Inv_tk {k s : Nat} (hv : Inv V) (hk : k < 20) (hs : s < am_n V 113 14) (ho : V 128 s = 0) (hme : s_meets V k s = false) : Inv (w_tk V k s) := by
  have mf := fun j => meets_f (j := j) hv hme hs
  obtain ⟨vn, vt, vk, ⟨vs1, vs2⟩, vx, ⟨vr1, vr2⟩, vp, vd⟩ := hv
  have hn2 := vn.2.2.2.1.2
  have u8 : ∀ x, (w_tk V k s) 128 x = if x = s then 1 else V 128 x := fun x => rfl
  have u9 : ∀ x, (w_tk V k s) 129 x = if x = s then nI k else V 129 x := fun x => rfl
  have i9 : ∀ x, x ≠ s → am_ix V 129 x 20 → am_ix (w_tk V k s) 129 x 20 := fun x hx q => by
    have e : (w_tk V k s) 129 x = V 129 x := by rw [u9, if_neg hx]
    unfold am_ix am_n; rw [e]; exact q
  have i9s : am_ix (w_tk V k s) 129 s 20 := am_ixn (x := k) (by rw [u9, if_pos rfl]) hk (by decide)
  have i8 := ix_up (V := V) (c := 128) (i := 3) (n := 60) (x := 1) (fun j hj => (vs1 j hj).2.2.2.1) ⟨by decide, by decide⟩ (by decide) s
  refine ⟨vn, vt, vk, ⟨fun x hx => ?_, fun x hx => ?_⟩, fun x y hx hy hxy a b e => ?_, ⟨fun r hr => ?_, vr2⟩, vp, vd⟩
  · obtain ⟨q1, q2, q3, q4, q5⟩ := vs1 x hx
    refine ⟨q1, q2, q3, i8 x hx, fun hxn => ?_⟩
    have hxn : am_n V 113 14 ≤ x := hxn
    rw [u8, if_neg (by omega)]; exact q5 hxn
  · obtain ⟨q1, q2, q3, q4⟩ := vs2 x hx
    by_cases e : x = s
    · subst e
      exact ⟨q1, Or.inr i9s, fun q => by rw [u8, if_pos rfl] at q; exact absurd q (by decide), fun _ => i9s⟩
    · refine ⟨q1, ?_, fun q => ?_, fun q => ?_⟩
      · rcases q2 with q2 | q2
        · left; rw [u9, if_neg e]; exact q2
        · right; exact i9 x e q2
      · rw [u8, if_neg e] at q; rw [u9, if_neg e]; exact q3 q
      · rw [u8, if_neg e] at q; exact i9 x e (q4 q)
  · rw [u8] at a b
    rw [u9, u9] at e
    show am_n V 127 x < am_n V 126 y ∨ am_n V 127 y < am_n V 126 x
    by_cases ex : x = s
    · have ey : y ≠ s := fun q => hxy (ex.trans q.symm)
      rw [if_neg ey] at b
      rw [if_pos ex, if_neg ey] at e
      have := mf y hy b e.symm
      rw [ex]; exact this
    · rw [if_neg ex] at a
      by_cases ey : y = s
      · rw [if_neg ex, if_pos ey] at e
        have := mf x hx a e
        rw [ey]; exact this.symm
      · rw [if_neg ey] at b
        rw [if_neg ex, if_neg ey] at e
        exact vx x y hx hy hxy a b e
  · obtain ⟨q1, q2⟩ := vr1 r hr
    refine ⟨q1, fun q => ?_⟩
    obtain ⟨w1, w2, w3⟩ := q2 q
    refine ⟨w1, ?_, w3⟩
    rw [u8]
    split
    · rfl
    · exact w2
/-- an open stay has no review: who has it doesn't count -/
theorem ct_open {s : Nat} {k : Int32} (hv : Inv V) (hs : s < 60) (ho : V 128 s = 0) : s_ct (V 130) (V 131) (V 127) s 0 k = false := by
  have e0 : V 130 (2 * s) = 0 := by
    rcases Classical.em (V 130 (2 * s) = 0) with q | q
    · exact q
    · have w := ((hv.2.2.2.2.2.1.1 (2 * s) (by omega)).2 q).2.1
      rw [show 2 * s / 2 = s from by omega, ho] at w
      exact absurd w (by decide)
  apply Bool.eq_false_iff.mpr
  intro q
  have q := decide_eq_true_iff.mp q
  exact q.1.1 e0
theorem kn_up {s n : Nat} {x w k : Int32} (hv : Inv V) (hs : s < 60) (ho : V 128 s = 0) : s_kn (upd (V 129) s x) (V 130) (V 131) (V 127) n w k = s_kn (V 129) (V 130) (V 131) (V 127) n w k := by
  unfold s_kn
  refine s_n_congr (fun j hj => ?_)
  by_cases e : j = s
  · subst e; rw [ct_open hv hs ho, Bool.and_false, Bool.and_false]
  · rw [upd_ne e]
theorem tr_up {s n : Nat} {x w k : Int32} (hv : Inv V) (hs : s < 60) (ho : V 128 s = 0) : s_trust (V 125) (upd (V 129) s x) (V 130) (V 131) (V 127) n w k = s_trust (V 125) (V 129) (V 130) (V 131) (V 127) n w k := by
  unfold s_trust
  rw [kn_up hv hs ho]
  congr 1
  refine s_s_congr (fun j hj => ?_) (fun j hj _ => rfl)
  by_cases e : j = s
  · subst e; rw [ct_open hv hs ho, Bool.and_false, Bool.and_false]
  · rw [upd_ne e]
theorem RC_tk {k s : Nat} (hc : RC I V) (hv : Inv V) (hs : s < am_n V 113 14) (ho : V 128 s = 0) : RC (va_up (va_up I 70 (upd (I 70) s 1)) 71 (upd (I 71) s (nI k))) (w_tk V k s) := by
  have hn2 := hv.1.2.2.2.1.2
  obtain ⟨g1, ⟨e1, e2, e3, e4, e5, e6, e7, e8, e9, e10, e11, e12, e13, e14⟩, ⟨a1, a2, a3, a4, a5⟩, g4, g5, g6⟩ := hc
  refine ⟨g1, ⟨e1, e2, e3, e4, e5, e6, e7, e8, e9, e10, e11, e12, ?_, e14⟩, ⟨a1, a2, a3, fun x hx => ?_, a5⟩, g4, ?_, g6⟩
  · show upd (I 70) s 1 = upd (V 128) s 1
    rw [e13]
  · show upd (I 71) s (nI k) x = if x < am_n V 113 14 then upd (V 129) s (nI k) x else -9
    by_cases e : x = s
    · subst e; rw [upd_at, if_pos hs, upd_at]
    · rw [upd_ne e, upd_ne e]; exact a4 x hx
  · rcases g5 with q | ⟨day, q1, q2, q3, q4⟩
    · exact Or.inl q
    · refine Or.inr ⟨day, q1, q2, q3, fun j hj => ⟨?_, ?_⟩⟩
      · show I 76 j = s_trust (V 125) (upd (V 129) s (nI k)) (V 130) (V 131) (V 127) (am_n V 113 14) (nI j) (nI day)
        rw [tr_up hv (by omega) ho]; exact (q4 j hj).1
      · show I 77 j = s_kn (upd (V 129) s (nI k)) (V 130) (V 131) (V 127) (am_n V 113 14) (nI j) (nI day)
        rw [kn_up hv (by omega) ho]; exact (q4 j hj).2
theorem C_take {k s : Int32} (hd : 9 ≤ d) (hc : RC I V) (hv : Inv V) (h : ∀ I' L', RC I' (o_take V k s).2 → am_hi I' I → R (some (.int (o_take V k s).1)) (am_mk I' L', 0, 0)) : am_meth d 12 [.ref 0, .int k, .int s] (am_mk I L, 0, 0) R := by
  obtain ⟨d, rfl⟩ : ∃ e, d = e + 1 := ⟨d - 1, by omega⟩
  refine ar_in rfl rfl rfl (r_H_take_0 (by omega) ?_)
  obtain ⟨⟨n1, n2, n3, n4, n5, n6, n7, n8⟩, ⟨e1, e2, e3, e4, e5, e6, e7, e8, e9, e10, e11, e12, e13, e14, e15, e16, e17⟩, -⟩ := id hc
  rw [n1, n4]
  unfold o_take at h
  refine ⟨fun c => ⟨fun c2 => ?_, fun c2 => ?_⟩, fun c => ?_⟩
  · rw [if_pos ⟨c, c2⟩] at h
    obtain ⟨i, i1, rfl, i2⟩ := ix_k hv c
    obtain ⟨j, j1, rfl, j2⟩ := ix_s hv c2
    rw [nI_clamp (by omega), nI_clamp (by omega)] at h
    refine ok_Ru_whyNot (by omega) hc hv i1 j2 (fun I' L' a b => ⟨_, _, _, rfl, rfl, fun c3 => ⟨j, j1, rfl, ?_⟩, fun c3 => ?_⟩)
    · rw [if_pos c3] at h
      rintro _ rfl _ rfl
      exact h _ _ (RC_tk a hv j2 (why_0 c3).1) (hi_up (by decide) (hi_up (by decide) b))
    · rw [if_neg c3] at h
      exact h _ _ (RC_no a) (hi_up (by decide) b)
  · rw [if_neg (fun q => c2 q.2)] at h; (exact h _ _ (RC_no hc) (hi_up (by decide) hi_r))
  · rw [if_neg (fun q => c q.1)] at h; (exact h _ _ (RC_no hc) (hi_up (by decide) hi_r))
theorem RM_tk {k s : Nat} (hm : RM I V) : RM (va_up (va_up I 128 (upd (I 128) s 1)) 129 (upd (I 129) s (nI k))) (w_tk V k s) :=
  RM_up (I := va_up I 128 (upd (I 128) s 1)) (V := va_up V 128 (upd (V 128) s 1)) (by decide) (by rw [hm.1 129 rfl]) (RM_up (by decide) (by rw [hm.1 128 rfl]) hm)
theorem M_take {k s : Int32} (hd : 9 ≤ d) (hx : w_Tx V) (hm : RM I V) (hv : Inv V) (h : ∀ I' L', RM I' (o_take V k s).2 → am_lo I' I → R (some (.int (o_take V k s).1)) (am_mk I' L', 0, 0)) : am_meth d 191 [.ref 113, .int k, .int s] (am_mk I L, 0, 0) R := by
  obtain ⟨d, rfl⟩ : ∃ e, d = e + 1 := ⟨d - 1, by omega⟩
  refine ar_in rfl rfl rfl (r_M_take_0 (by omega) ?_)
  have mc := hm.1; have mf := hm.2
  rw [mf 4 rfl, mf 14 rfl]
  unfold o_take at h
  refine ⟨fun c => ⟨fun c2 => ?_, fun c2 => ?_⟩, fun c => ?_⟩
  · rw [if_pos ⟨c, c2⟩] at h
    obtain ⟨i, i1, rfl, i2⟩ := ix_k hv c
    obtain ⟨j, j1, rfl, j2⟩ := ix_s hv c2
    rw [nI_clamp (by omega), nI_clamp (by omega)] at h
    refine ok_M_whyNot (by omega) hm hv hx i1 j2 (fun I' L' a b => ⟨_, _, _, rfl, rfl, fun c3 => ⟨j, j1, rfl, ?_⟩, fun c3 => ?_⟩)
    · rw [if_pos c3] at h
      rintro _ rfl _ rfl
      exact h _ _ (RM_tk a) (lo_up (by decide) (lo_up (by decide) (mf_lo b)))
    · rw [if_neg c3] at h
      exact h _ _ (RM_no a) (lo_up (by decide) (mf_lo b))
  · rw [if_neg (fun q => c2 q.2)] at h; (exact h _ _ (RM_no hm) (lo_up (by decide) lo_r))
  · rw [if_neg (fun q => c q.1)] at h; (exact h _ _ (RM_no hm) (lo_up (by decide) lo_r))
theorem I_take {k s : Int32} (hv : Inv V) : Inv (o_take V k s).2 := by
  unfold o_take
  split
  · rename_i c
    split
    · rename_i c2
      obtain ⟨i, i1, rfl, i2⟩ := ix_k hv c.1
      obtain ⟨j, j1, rfl, j2⟩ := ix_s hv c.2
      rw [nI_clamp (by omega), nI_clamp (by omega)] at c2 ⊢
      exact Inv_tk hv i1 j2 (why_0 c2).1 (why_0 c2).2
    · exact hv
  · exact hv
end TK
