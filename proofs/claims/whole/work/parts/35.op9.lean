/-! count, on both sides; review -/
section OP9
variable {d : Nat} {I V : am_V} {L : Nat → Nat → Int64} {R : am_R}
theorem C_count {w : Int32} (hd : 3 ≤ d) (hc : RC I V) (hv : Inv V) (h : ∀ I' L', RC I' (o_count V w).2 → am_hi I' I → R (some (.int (o_count V w).1)) (am_mk I' L', 0, 0)) : am_meth d 42 [.ref 0, .int w] (am_mk I L, 0, 0) R := by
  obtain ⟨d, rfl⟩ : ∃ e, d = e + 1 := ⟨d - 1, by omega⟩
  refine ar_in rfl rfl rfl (r_H_count_0 ?_)
  obtain ⟨⟨n1, n2, n3, n4, n5, n6, n7, n8⟩, ⟨e1, e2, e3, e4, e5, e6, e7, e8, e9, e10, e11, e12, e13, e14, e15, e16, e17⟩, -⟩ := id hc
  have hn := hv.1.2.2.2.1
  have hn2 := hn.2
  have en : I 66 1 = nI (am_n V 113 14) := by rw [n4]; exact hn.1
  refine ⟨fun c => ?_, fun c => ⟨fun c2 => ?_, fun c2 => ?_⟩⟩
  · have c9 : ¬ (11 ≤ w ∧ w ≤ 16) := fun q => Int32.not_le.mpr c q.1
    refine ⟨fun q => ?_, fun q => ?_, fun q => ?_, fun q => ?_, fun q => ?_, fun q => ?_, fun q => ?_, fun q => ?_, fun q => ?_, fun q => ?_, fun q => ?_, fun q => ?_, fun q => ?_, fun q => ?_⟩
    · have e := toInt_e (n := 0) q (by decide); subst e
      rw [show o_count V (nI 0) = (_, V) from rfl] at h
      rw [n3]; exact h _ _ hc hi_r
    · have e := toInt_e (n := 1) q (by decide); subst e
      rw [show o_count V (nI 1) = (_, V) from rfl] at h
      rw [n1]; exact h _ _ hc hi_r
    · have e := toInt_e (n := 2) q (by decide); subst e
      rw [show o_count V (nI 2) = (_, V) from rfl] at h
      rw [n2]; exact h _ _ hc hi_r
    · have e := toInt_e (n := 3) q (by decide); subst e
      rw [show o_count V (nI 3) = (_, V) from rfl] at h
      rw [n4]; exact h _ _ hc hi_r
    · have e := toInt_e (n := 4) q (by decide); subst e
      rw [show o_count V (nI 4) = (_, V) from rfl] at h
      exact ok_St_howMany (by omega) en (by omega) ⟨_, _, _, rfl, rfl, by rw [e13]; exact h _ _ hc hi_r⟩
    · have e := toInt_e (n := 5) q (by decide); subst e
      rw [show o_count V (nI 5) = (_, V) from rfl] at h
      exact ok_St_howMany (by omega) en (by omega) ⟨_, _, _, rfl, rfl, by rw [e13]; exact h _ _ hc hi_r⟩
    · have e := toInt_e (n := 6) q (by decide); subst e
      rw [show o_count V (nI 6) = (_, V) from rfl] at h
      exact ok_St_howMany (by omega) en (by omega) ⟨_, _, _, rfl, rfl, by rw [e13]; exact h _ _ hc hi_r⟩
    · have e := toInt_e (n := 7) q (by decide); subst e
      rw [show o_count V (nI 7) = (_, V) from rfl] at h
      rw [n5]; exact h _ _ hc hi_r
    · have e := toInt_e (n := 8) q (by decide); subst e
      rw [show o_count V (nI 8) = (_, V) from rfl] at h
      rw [hc.2.2.2.1.2]; exact h _ _ hc hi_r
    · have e := toInt_e (n := 9) q (by decide); subst e
      rw [show o_count V (nI 9) = (_, V) from rfl] at h
      rw [n3]; exact ok_Re_countingOn (by omega) hc hv ⟨_, _, _, rfl, rfl, h _ _ hc hi_r⟩
    · have e := toInt_e (n := 10) q (by decide); subst e
      rw [show o_count V (nI 10) = (_, V) from rfl] at h
      rw [n6]; exact h _ _ hc hi_r
    · have e := toInt_e (n := 17) q (by decide); subst e
      rw [show o_count V (nI 17) = (_, V) from rfl] at h
      rw [n7]; exact h _ _ hc hi_r
    · have e := toInt_e (n := 18) q (by decide); subst e
      rw [show o_count V (nI 18) = (_, V) from rfl] at h
      rw [n8]; exact h _ _ hc hi_r
    · unfold o_count at h
      rw [if_neg c9, if_neg (fun e => by have e1 := e.1; have e2 := e.2; clear h; (simp (disch := omega) only [Int32.lt_iff_toInt_lt, Int32.le_iff_toInt_le, ← Int32.toInt_inj, Int32.reduceToInt, nI_toInt] at *; omega)), if_neg (fun e => by subst e; revert q; decide), if_neg (fun e => by subst e; revert q; decide), if_neg (fun e => by subst e; revert q; decide), if_neg (fun e => by subst e; revert q; decide), if_neg (fun e => by subst e; revert q; decide), if_neg (fun e => by subst e; revert q; decide), if_neg (fun e => by subst e; revert q; decide), if_neg (fun e => by subst e; revert q; decide), if_neg (fun e => by subst e; revert q; decide), if_neg (fun e => by subst e; revert q; decide)] at h
      exact h _ _ hc hi_r
  · have c3 : 11 ≤ w := Int32.not_lt.mp c
    unfold o_count at h
    rw [if_pos ⟨c3, c2⟩] at h
    obtain ⟨j, hj, rfl⟩ := nI_of (x := w) (fun q => by clear h; (simp (disch := omega) only [Int32.lt_iff_toInt_lt, Int32.le_iff_toInt_le, ← Int32.toInt_inj, Int32.reduceToInt, nI_toInt] at *; omega))
    have c4 := (nI_leI (a := 11) (by decide) hj).mp c3
    have c5 := (nI_leI (b := 16) hj (by decide)).mp c2
    have e : nI j - 10 = nI (j - 10) := pk_sub (b := 10) (by omega)
    rw [e, nI_clamp (by omega)] at h
    refine ⟨j - 10, by omega, e, ?_⟩
    rw [e1]
    exact h _ _ hc hi_r
  · have c9 : ¬ (11 ≤ w ∧ w ≤ 16) := fun q => c2 q.2
    refine ⟨fun q => ?_, fun q => ?_, fun q => ?_, fun q => ?_, fun q => ?_, fun q => ?_, fun q => ?_, fun q => ?_, fun q => ?_, fun q => ?_, fun q => ?_, fun q => ?_, fun q => ?_, fun q => ?_⟩
    · have e := toInt_e (n := 0) q (by decide); subst e
      rw [show o_count V (nI 0) = (_, V) from rfl] at h
      rw [n3]; exact h _ _ hc hi_r
    · have e := toInt_e (n := 1) q (by decide); subst e
      rw [show o_count V (nI 1) = (_, V) from rfl] at h
      rw [n1]; exact h _ _ hc hi_r
    · have e := toInt_e (n := 2) q (by decide); subst e
      rw [show o_count V (nI 2) = (_, V) from rfl] at h
      rw [n2]; exact h _ _ hc hi_r
    · have e := toInt_e (n := 3) q (by decide); subst e
      rw [show o_count V (nI 3) = (_, V) from rfl] at h
      rw [n4]; exact h _ _ hc hi_r
    · have e := toInt_e (n := 4) q (by decide); subst e
      rw [show o_count V (nI 4) = (_, V) from rfl] at h
      exact ok_St_howMany (by omega) en (by omega) ⟨_, _, _, rfl, rfl, by rw [e13]; exact h _ _ hc hi_r⟩
    · have e := toInt_e (n := 5) q (by decide); subst e
      rw [show o_count V (nI 5) = (_, V) from rfl] at h
      exact ok_St_howMany (by omega) en (by omega) ⟨_, _, _, rfl, rfl, by rw [e13]; exact h _ _ hc hi_r⟩
    · have e := toInt_e (n := 6) q (by decide); subst e
      rw [show o_count V (nI 6) = (_, V) from rfl] at h
      exact ok_St_howMany (by omega) en (by omega) ⟨_, _, _, rfl, rfl, by rw [e13]; exact h _ _ hc hi_r⟩
    · have e := toInt_e (n := 7) q (by decide); subst e
      rw [show o_count V (nI 7) = (_, V) from rfl] at h
      rw [n5]; exact h _ _ hc hi_r
    · have e := toInt_e (n := 8) q (by decide); subst e
      rw [show o_count V (nI 8) = (_, V) from rfl] at h
      rw [hc.2.2.2.1.2]; exact h _ _ hc hi_r
    · have e := toInt_e (n := 9) q (by decide); subst e
      rw [show o_count V (nI 9) = (_, V) from rfl] at h
      rw [n3]; exact ok_Re_countingOn (by omega) hc hv ⟨_, _, _, rfl, rfl, h _ _ hc hi_r⟩
    · have e := toInt_e (n := 10) q (by decide); subst e
      rw [show o_count V (nI 10) = (_, V) from rfl] at h
      rw [n6]; exact h _ _ hc hi_r
    · have e := toInt_e (n := 17) q (by decide); subst e
      rw [show o_count V (nI 17) = (_, V) from rfl] at h
      rw [n7]; exact h _ _ hc hi_r
    · have e := toInt_e (n := 18) q (by decide); subst e
      rw [show o_count V (nI 18) = (_, V) from rfl] at h
      rw [n8]; exact h _ _ hc hi_r
    · unfold o_count at h
      rw [if_neg c9, if_neg (fun e => by have e1 := e.1; have e2 := e.2; clear h; (simp (disch := omega) only [Int32.lt_iff_toInt_lt, Int32.le_iff_toInt_le, ← Int32.toInt_inj, Int32.reduceToInt, nI_toInt] at *; omega)), if_neg (fun e => by subst e; revert q; decide), if_neg (fun e => by subst e; revert q; decide), if_neg (fun e => by subst e; revert q; decide), if_neg (fun e => by subst e; revert q; decide), if_neg (fun e => by subst e; revert q; decide), if_neg (fun e => by subst e; revert q; decide), if_neg (fun e => by subst e; revert q; decide), if_neg (fun e => by subst e; revert q; decide), if_neg (fun e => by subst e; revert q; decide), if_neg (fun e => by subst e; revert q; decide)] at h
      exact h _ _ hc hi_r
theorem M_count {w : Int32} (hd : 3 ≤ d) (hm : RM I V) (hv : Inv V) (h : ∀ I' L', RM I' (o_count V w).2 → am_lo I' I → R (some (.int (o_count V w).1)) (am_mk I' L', 0, 0)) : am_meth d 239 [.ref 113, .int w] (am_mk I L, 0, 0) R := by
  obtain ⟨d, rfl⟩ : ∃ e, d = e + 1 := ⟨d - 1, by omega⟩
  refine ar_in rfl rfl rfl (r_M_count_0 ?_)
  have mc := hm.1; have mf := hm.2
  rw [mf 0 rfl, mf 4 rfl, mf 10 rfl, mf 14 rfl, mf 25 rfl, mf 24 rfl, mf 39 rfl, mf 41 rfl, mc 156 rfl]
  have hn := hv.1.2.2.2.1
  have hn2 := hn.2
  have en : I 113 14 = nI (am_n V 113 14) := by rw [mf 14 rfl]; exact hn.1
  unfold o_count at h
  refine ⟨fun c => ⟨fun d1 => ?_, fun d1 => ⟨fun d2 => ?_, fun d2 => ?_⟩⟩, fun c => ⟨fun c2 => ?_, fun c2 => ⟨fun d1 => ?_, fun d1 => ⟨fun d2 => ?_, fun d2 => ?_⟩⟩⟩⟩
  · have k1 : ¬ (11 ≤ w ∧ w ≤ 16) := fun q => Int32.not_le.mpr c q.1
    have k2 : ¬ (4 ≤ w ∧ w ≤ 6) := fun q => Int32.not_le.mpr d1 q.1
    refine ⟨fun c0 => ?_, fun c0 => ⟨fun c1 => ?_, fun c1 => ⟨fun c2 => ?_, fun c2 => ⟨fun c3 => ?_, fun c3 => ⟨fun c7 => ?_, fun c7 => ⟨fun c8 => ?_, fun c8 => ⟨fun c9 => ?_, fun c9 => ⟨fun c10 => ?_, fun c10 => ⟨fun c17 => ?_, fun c17 => ⟨fun c18 => ?_, fun c18 => ?_⟩⟩⟩⟩⟩⟩⟩⟩⟩⟩
    · rw [if_neg k1, if_neg k2, if_pos c0] at h
      exact h _ _ hm lo_r
    · rw [if_neg k1, if_neg k2, if_neg c0, if_pos c1] at h
      exact h _ _ hm lo_r
    · rw [if_neg k1, if_neg k2, if_neg c0, if_neg c1, if_pos c2] at h
      exact h _ _ hm lo_r
    · rw [if_neg k1, if_neg k2, if_neg c0, if_neg c1, if_neg c2, if_pos c3] at h
      exact h _ _ hm lo_r
    · rw [if_neg k1, if_neg k2, if_neg c0, if_neg c1, if_neg c2, if_neg c3, if_pos c7] at h
      exact h _ _ hm lo_r
    · rw [if_neg k1, if_neg k2, if_neg c0, if_neg c1, if_neg c2, if_neg c3, if_neg c7, if_pos c8] at h
      exact ok_M_reviews0 (by omega) hm hv ⟨_, _, _, rfl, rfl, h _ _ hm lo_r⟩
    · rw [if_neg k1, if_neg k2, if_neg c0, if_neg c1, if_neg c2, if_neg c3, if_neg c7, if_neg c8, if_pos c9] at h
      exact ok_M_reviews1 (by omega) hm hv ⟨_, _, _, rfl, rfl, h _ _ hm lo_r⟩
    · rw [if_neg k1, if_neg k2, if_neg c0, if_neg c1, if_neg c2, if_neg c3, if_neg c7, if_neg c8, if_neg c9, if_pos c10] at h
      exact h _ _ hm lo_r
    · rw [if_neg k1, if_neg k2, if_neg c0, if_neg c1, if_neg c2, if_neg c3, if_neg c7, if_neg c8, if_neg c9, if_neg c10, if_pos c17] at h
      exact h _ _ hm lo_r
    · rw [if_neg k1, if_neg k2, if_neg c0, if_neg c1, if_neg c2, if_neg c3, if_neg c7, if_neg c8, if_neg c9, if_neg c10, if_neg c17, if_pos c18] at h
      exact h _ _ hm lo_r
    · rw [if_neg k1, if_neg k2, if_neg c0, if_neg c1, if_neg c2, if_neg c3, if_neg c7, if_neg c8, if_neg c9, if_neg c10, if_neg c17, if_neg c18] at h
      exact h _ _ hm lo_r
  · rw [if_neg (fun q => Int32.not_le.mpr c q.1), if_pos ⟨Int32.not_lt.mp d1, d2⟩] at h
    exact ok_M_inState (by omega) en (by omega) ⟨_, _, _, rfl, rfl, by rw [mc 128 rfl]; exact h _ _ hm lo_r⟩
  · have k1 : ¬ (11 ≤ w ∧ w ≤ 16) := fun q => Int32.not_le.mpr c q.1
    have k2 : ¬ (4 ≤ w ∧ w ≤ 6) := fun q => d2 q.2
    refine ⟨fun c0 => ?_, fun c0 => ⟨fun c1 => ?_, fun c1 => ⟨fun c2 => ?_, fun c2 => ⟨fun c3 => ?_, fun c3 => ⟨fun c7 => ?_, fun c7 => ⟨fun c8 => ?_, fun c8 => ⟨fun c9 => ?_, fun c9 => ⟨fun c10 => ?_, fun c10 => ⟨fun c17 => ?_, fun c17 => ⟨fun c18 => ?_, fun c18 => ?_⟩⟩⟩⟩⟩⟩⟩⟩⟩⟩
    · rw [if_neg k1, if_neg k2, if_pos c0] at h
      exact h _ _ hm lo_r
    · rw [if_neg k1, if_neg k2, if_neg c0, if_pos c1] at h
      exact h _ _ hm lo_r
    · rw [if_neg k1, if_neg k2, if_neg c0, if_neg c1, if_pos c2] at h
      exact h _ _ hm lo_r
    · rw [if_neg k1, if_neg k2, if_neg c0, if_neg c1, if_neg c2, if_pos c3] at h
      exact h _ _ hm lo_r
    · rw [if_neg k1, if_neg k2, if_neg c0, if_neg c1, if_neg c2, if_neg c3, if_pos c7] at h
      exact h _ _ hm lo_r
    · rw [if_neg k1, if_neg k2, if_neg c0, if_neg c1, if_neg c2, if_neg c3, if_neg c7, if_pos c8] at h
      exact ok_M_reviews0 (by omega) hm hv ⟨_, _, _, rfl, rfl, h _ _ hm lo_r⟩
    · rw [if_neg k1, if_neg k2, if_neg c0, if_neg c1, if_neg c2, if_neg c3, if_neg c7, if_neg c8, if_pos c9] at h
      exact ok_M_reviews1 (by omega) hm hv ⟨_, _, _, rfl, rfl, h _ _ hm lo_r⟩
    · rw [if_neg k1, if_neg k2, if_neg c0, if_neg c1, if_neg c2, if_neg c3, if_neg c7, if_neg c8, if_neg c9, if_pos c10] at h
      exact h _ _ hm lo_r
    · rw [if_neg k1, if_neg k2, if_neg c0, if_neg c1, if_neg c2, if_neg c3, if_neg c7, if_neg c8, if_neg c9, if_neg c10, if_pos c17] at h
      exact h _ _ hm lo_r
    · rw [if_neg k1, if_neg k2, if_neg c0, if_neg c1, if_neg c2, if_neg c3, if_neg c7, if_neg c8, if_neg c9, if_neg c10, if_neg c17, if_pos c18] at h
      exact h _ _ hm lo_r
    · rw [if_neg k1, if_neg k2, if_neg c0, if_neg c1, if_neg c2, if_neg c3, if_neg c7, if_neg c8, if_neg c9, if_neg c10, if_neg c17, if_neg c18] at h
      exact h _ _ hm lo_r
  · have c3 : 11 ≤ w := Int32.not_lt.mp c
    rw [if_pos ⟨c3, c2⟩] at h
    obtain ⟨j, hj, rfl⟩ := nI_of (x := w) (fun q => by clear h; (simp (disch := omega) only [Int32.lt_iff_toInt_lt, Int32.le_iff_toInt_le, ← Int32.toInt_inj, Int32.reduceToInt, nI_toInt] at *; omega))
    have c4 := (nI_leI (a := 11) (by decide) hj).mp c3
    have c5 := (nI_leI (b := 16) hj (by decide)).mp c2
    have e : nI j - 10 = nI (j - 10) := pk_sub (b := 10) (by omega)
    rw [e, nI_clamp (by omega)] at h
    exact ⟨j - 10, by omega, e, h _ _ hm lo_r⟩
  · have k1 : ¬ (11 ≤ w ∧ w ≤ 16) := fun q => c2 q.2
    have k2 : ¬ (4 ≤ w ∧ w ≤ 6) := fun q => Int32.not_le.mpr d1 q.1
    refine ⟨fun c0 => ?_, fun c0 => ⟨fun c1 => ?_, fun c1 => ⟨fun c2 => ?_, fun c2 => ⟨fun c3 => ?_, fun c3 => ⟨fun c7 => ?_, fun c7 => ⟨fun c8 => ?_, fun c8 => ⟨fun c9 => ?_, fun c9 => ⟨fun c10 => ?_, fun c10 => ⟨fun c17 => ?_, fun c17 => ⟨fun c18 => ?_, fun c18 => ?_⟩⟩⟩⟩⟩⟩⟩⟩⟩⟩
    · rw [if_neg k1, if_neg k2, if_pos c0] at h
      exact h _ _ hm lo_r
    · rw [if_neg k1, if_neg k2, if_neg c0, if_pos c1] at h
      exact h _ _ hm lo_r
    · rw [if_neg k1, if_neg k2, if_neg c0, if_neg c1, if_pos c2] at h
      exact h _ _ hm lo_r
    · rw [if_neg k1, if_neg k2, if_neg c0, if_neg c1, if_neg c2, if_pos c3] at h
      exact h _ _ hm lo_r
    · rw [if_neg k1, if_neg k2, if_neg c0, if_neg c1, if_neg c2, if_neg c3, if_pos c7] at h
      exact h _ _ hm lo_r
    · rw [if_neg k1, if_neg k2, if_neg c0, if_neg c1, if_neg c2, if_neg c3, if_neg c7, if_pos c8] at h
      exact ok_M_reviews0 (by omega) hm hv ⟨_, _, _, rfl, rfl, h _ _ hm lo_r⟩
    · rw [if_neg k1, if_neg k2, if_neg c0, if_neg c1, if_neg c2, if_neg c3, if_neg c7, if_neg c8, if_pos c9] at h
      exact ok_M_reviews1 (by omega) hm hv ⟨_, _, _, rfl, rfl, h _ _ hm lo_r⟩
    · rw [if_neg k1, if_neg k2, if_neg c0, if_neg c1, if_neg c2, if_neg c3, if_neg c7, if_neg c8, if_neg c9, if_pos c10] at h
      exact h _ _ hm lo_r
    · rw [if_neg k1, if_neg k2, if_neg c0, if_neg c1, if_neg c2, if_neg c3, if_neg c7, if_neg c8, if_neg c9, if_neg c10, if_pos c17] at h
      exact h _ _ hm lo_r
    · rw [if_neg k1, if_neg k2, if_neg c0, if_neg c1, if_neg c2, if_neg c3, if_neg c7, if_neg c8, if_neg c9, if_neg c10, if_neg c17, if_pos c18] at h
      exact h _ _ hm lo_r
    · rw [if_neg k1, if_neg k2, if_neg c0, if_neg c1, if_neg c2, if_neg c3, if_neg c7, if_neg c8, if_neg c9, if_neg c10, if_neg c17, if_neg c18] at h
      exact h _ _ hm lo_r
  · have k1 : ¬ (11 ≤ w ∧ w ≤ 16) := fun q => c2 q.2
    rw [if_neg k1, if_pos ⟨Int32.not_lt.mp d1, d2⟩] at h
    exact ok_M_inState (by omega) en (by omega) ⟨_, _, _, rfl, rfl, by rw [mc 128 rfl]; exact h _ _ hm lo_r⟩
  · have k1 : ¬ (11 ≤ w ∧ w ≤ 16) := fun q => c2 q.2
    have k2 : ¬ (4 ≤ w ∧ w ≤ 6) := fun q => d2 q.2
    refine ⟨fun c0 => ?_, fun c0 => ⟨fun c1 => ?_, fun c1 => ⟨fun c2 => ?_, fun c2 => ⟨fun c3 => ?_, fun c3 => ⟨fun c7 => ?_, fun c7 => ⟨fun c8 => ?_, fun c8 => ⟨fun c9 => ?_, fun c9 => ⟨fun c10 => ?_, fun c10 => ⟨fun c17 => ?_, fun c17 => ⟨fun c18 => ?_, fun c18 => ?_⟩⟩⟩⟩⟩⟩⟩⟩⟩⟩
    · rw [if_neg k1, if_neg k2, if_pos c0] at h
      exact h _ _ hm lo_r
    · rw [if_neg k1, if_neg k2, if_neg c0, if_pos c1] at h
      exact h _ _ hm lo_r
    · rw [if_neg k1, if_neg k2, if_neg c0, if_neg c1, if_pos c2] at h
      exact h _ _ hm lo_r
    · rw [if_neg k1, if_neg k2, if_neg c0, if_neg c1, if_neg c2, if_pos c3] at h
      exact h _ _ hm lo_r
    · rw [if_neg k1, if_neg k2, if_neg c0, if_neg c1, if_neg c2, if_neg c3, if_pos c7] at h
      exact h _ _ hm lo_r
    · rw [if_neg k1, if_neg k2, if_neg c0, if_neg c1, if_neg c2, if_neg c3, if_neg c7, if_pos c8] at h
      exact ok_M_reviews0 (by omega) hm hv ⟨_, _, _, rfl, rfl, h _ _ hm lo_r⟩
    · rw [if_neg k1, if_neg k2, if_neg c0, if_neg c1, if_neg c2, if_neg c3, if_neg c7, if_neg c8, if_pos c9] at h
      exact ok_M_reviews1 (by omega) hm hv ⟨_, _, _, rfl, rfl, h _ _ hm lo_r⟩
    · rw [if_neg k1, if_neg k2, if_neg c0, if_neg c1, if_neg c2, if_neg c3, if_neg c7, if_neg c8, if_neg c9, if_pos c10] at h
      exact h _ _ hm lo_r
    · rw [if_neg k1, if_neg k2, if_neg c0, if_neg c1, if_neg c2, if_neg c3, if_neg c7, if_neg c8, if_neg c9, if_neg c10, if_pos c17] at h
      exact h _ _ hm lo_r
    · rw [if_neg k1, if_neg k2, if_neg c0, if_neg c1, if_neg c2, if_neg c3, if_neg c7, if_neg c8, if_neg c9, if_neg c10, if_neg c17, if_pos c18] at h
      exact h _ _ hm lo_r
    · rw [if_neg k1, if_neg k2, if_neg c0, if_neg c1, if_neg c2, if_neg c3, if_neg c7, if_neg c8, if_neg c9, if_neg c10, if_neg c17, if_neg c18] at h
      exact h _ _ hm lo_r
theorem I_count {w : Int32} (hv : Inv V) : Inv (o_count V w).2 := hv
end OP9
