/-! more calls -/
theorem am_ixz {V : am_V} {c j n : Nat} (h : V c j = 0) : am_ix V c j (n + 1) := by
  have e : am_n V c j = 0 := by unfold am_n; rw [h]; rfl
  unfold am_ix; rw [e, h]; exact ⟨rfl, by omega⟩
section OP4
variable {d : Nat} {I V : am_V} {L : Nat → Nat → Int64} {R : am_R}
def o_stayOf (V : am_V) (s w : Int32) : Int32 × am_V := if 0 ≤ s ∧ s < V 113 14 then (if w = 0 then (V 125 s.toNatClampNeg, V) else if w = 1 then (V 126 s.toNatClampNeg, V) else if w = 2 then (V 127 s.toNatClampNeg, V) else if w = 3 then (V 128 s.toNatClampNeg, V) else if w = 4 then (V 129 s.toNatClampNeg, V) else if w = 5 then (if V 127 s.toNatClampNeg < V 113 0 then 1 else 0, V) else o_no V 2 (-2)) else o_no V 1 (-1)
theorem toInt_e {w : Int32} {n : Nat} (h : w.toInt = n) (hn : n < 2 ^ 31) : w = nI n := Int32.toInt_inj.mp (by rw [nI_toInt hn]; exact h)
theorem C_stayOf {s w : Int32} (hd : 2 ≤ d) (hc : RC I V) (hv : Inv V) (h : ∀ I' L', RC I' (o_stayOf V s w).2 → am_hi I' I → R (some (.int (o_stayOf V s w).1)) (am_mk I' L', 0, 0)) : am_meth d 10 [.ref 0, .int s, .int w] (am_mk I L, 0, 0) R := by
  obtain ⟨d, rfl⟩ : ∃ e, d = e + 1 := ⟨d - 1, by omega⟩
  refine ar_in rfl rfl rfl (r_H_stayOf_0 (by omega) ?_)
  obtain ⟨⟨n1, n2, n3, n4, n5, n6, n7, n8⟩, ⟨e1, e2, e3, e4, e5, e6, e7, e8, e9, e10, e11, e12, e13, e14, e15, e16, e17⟩, -⟩ := id hc
  simp only [n1, n2, n3, n4, n5, n6, n7, n8, e1, e2, e3, e4, e5, e6, e7, e8, e9, e10, e11, e12, e13, e14, e15, e16, e17]
  unfold o_stayOf at h
  refine ⟨fun c => ?_, fun c => ?_⟩
  · rw [if_pos c] at h
    have hk := hv.1.2.2.2.1
    have hk2 := hk.2
    rw [hk.1] at c
    obtain ⟨i, hi, rfl⟩ := am_nat c (by omega)
    rw [nI_clamp (by omega)] at h
    have hi2 : i < 60 := by omega
    refine ⟨fun q => ?_, fun q => ?_, fun q => ?_, fun q => ?_, fun q => ?_, fun q => ?_, fun q => ?_⟩
    · have e := toInt_e (n := 0) q (by decide); subst e
      rw [if_pos (by decide)] at h
      exact ⟨i, hi2, rfl, h _ _ hc hi_r⟩
    · have e := toInt_e (n := 1) q (by decide); subst e
      rw [if_neg (by decide), if_pos (by decide)] at h
      exact ⟨i, hi2, rfl, h _ _ hc hi_r⟩
    · have e := toInt_e (n := 2) q (by decide); subst e
      rw [if_neg (by decide), if_neg (by decide), if_pos (by decide)] at h
      exact ⟨i, hi2, rfl, h _ _ hc hi_r⟩
    · have e := toInt_e (n := 3) q (by decide); subst e
      rw [if_neg (by decide), if_neg (by decide), if_neg (by decide), if_pos (by decide)] at h
      exact ⟨i, hi2, rfl, h _ _ hc hi_r⟩
    · have e := toInt_e (n := 4) q (by decide); subst e
      rw [if_neg (by decide), if_neg (by decide), if_neg (by decide), if_neg (by decide), if_pos (by decide)] at h
      refine ⟨i, hi2, rfl, ?_⟩
      rw [hc.2.2.1.2.2.2.1 i hi2, if_pos hi]
      exact h _ _ hc hi_r
    · have e := toInt_e (n := 5) q (by decide); subst e
      rw [if_neg (by decide), if_neg (by decide), if_neg (by decide), if_neg (by decide), if_neg (by decide), if_pos (by decide)] at h
      refine ⟨i, rfl, hi2, fun c2 => ?_, fun c2 => ?_⟩
      · rw [if_pos c2] at h
        exact h _ _ hc hi_r
      · rw [if_neg c2] at h
        exact h _ _ hc hi_r
    · rw [if_neg (fun e => by subst e; revert q; decide), if_neg (fun e => by subst e; revert q; decide), if_neg (fun e => by subst e; revert q; decide), if_neg (fun e => by subst e; revert q; decide), if_neg (fun e => by subst e; revert q; decide), if_neg (fun e => by subst e; revert q; decide)] at h
      (exact h _ _ (RC_no hc) (hi_up (by decide) hi_r))
  · (rw [if_neg c] at h; exact h _ _ (RC_no hc) (hi_up (by decide) hi_r))
theorem M_stayOf {s w : Int32} (hd : 2 ≤ d) (hm : RM I V) (hv : Inv V) (h : ∀ I' L', RM I' (o_stayOf V s w).2 → am_lo I' I → R (some (.int (o_stayOf V s w).1)) (am_mk I' L', 0, 0)) : am_meth d 160 [.ref 113, .int s, .int w] (am_mk I L, 0, 0) R := by
  obtain ⟨d, rfl⟩ : ∃ e, d = e + 1 := ⟨d - 1, by omega⟩
  refine ar_in rfl rfl rfl (r_M_stayOf_0 (by omega) ?_)
  have mc := hm.1; have mf := hm.2
  simp (disch := decide) only [mc, mf]
  unfold o_stayOf at h
  refine ⟨fun c => ?_, fun c => ?_⟩
  · rw [if_pos c] at h
    have hk := hv.1.2.2.2.1
    have hk2 := hk.2
    rw [hk.1] at c
    obtain ⟨i, hi, rfl⟩ := am_nat c (by omega)
    rw [nI_clamp (by omega)] at h
    have hi2 : i < 60 := by omega
    refine ⟨fun q => ?_, fun q => ⟨fun q2 => ⟨fun c0 => ?_, fun c0 => ⟨fun c1 => ?_, fun c1 => ⟨fun c2 => ?_, fun c2 => ⟨fun c3 => ?_, fun c3 => ⟨fun c4 => ?_, fun c4 => ?_⟩⟩⟩⟩⟩, fun q2 => ?_⟩⟩
    · rw [if_neg (fun e => by subst e; revert q; decide), if_neg (fun e => by subst e; revert q; decide), if_neg (fun e => by subst e; revert q; decide), if_neg (fun e => by subst e; revert q; decide), if_neg (fun e => by subst e; revert q; decide), if_neg (fun e => by subst e; revert q; decide)] at h
      (exact h _ _ (RM_no hm) (lo_up (by decide) lo_r))
    · rw [if_pos c0] at h
      exact ⟨i, hi2, rfl, h _ _ hm lo_r⟩
    · rw [if_neg c0, if_pos c1] at h
      exact ⟨i, hi2, rfl, h _ _ hm lo_r⟩
    · rw [if_neg c0, if_neg c1, if_pos c2] at h
      exact ⟨i, hi2, rfl, h _ _ hm lo_r⟩
    · rw [if_neg c0, if_neg c1, if_neg c2, if_pos c3] at h
      exact ⟨i, hi2, rfl, h _ _ hm lo_r⟩
    · rw [if_neg c0, if_neg c1, if_neg c2, if_neg c3, if_pos c4] at h
      exact ⟨i, hi2, rfl, h _ _ hm lo_r⟩
    · have c5 : w = 5 := by (simp (disch := omega) only [Int32.lt_iff_toInt_lt, Int32.le_iff_toInt_le, ← Int32.toInt_inj, Int32.reduceToInt, nI_toInt] at *; omega)
      rw [if_neg c0, if_neg c1, if_neg c2, if_neg c3, if_neg c4, if_pos c5] at h
      refine ⟨i, rfl, hi2, fun c2 => ?_, fun c2 => ?_⟩
      · rw [if_pos c2] at h
        exact h _ _ hm lo_r
      · rw [if_neg c2] at h
        exact h _ _ hm lo_r
    · rw [if_neg (fun e => by subst e; revert q2; decide), if_neg (fun e => by subst e; revert q2; decide), if_neg (fun e => by subst e; revert q2; decide), if_neg (fun e => by subst e; revert q2; decide), if_neg (fun e => by subst e; revert q2; decide), if_neg (fun e => by subst e; revert q2; decide)] at h
      (exact h _ _ (RM_no hm) (lo_up (by decide) lo_r))
  · (rw [if_neg c] at h; exact h _ _ (RM_no hm) (lo_up (by decide) lo_r))
theorem I_stayOf {s w : Int32} (hv : Inv V) : Inv (o_stayOf V s w).2 := by
  unfold o_stayOf
  repeat' split
  all_goals exact hv
def o_cancel (V : am_V) (s : Int32) : Int32 × am_V := if 0 ≤ s ∧ s < V 113 14 then (if V 127 s.toNatClampNeg < V 113 0 ∨ V 128 s.toNatClampNeg = 2 then o_no V 3 (-3) else (V 129 s.toNatClampNeg, va_up V 128 (upd (V 128) s.toNatClampNeg 2))) else o_no V 1 (-1)
theorem C_cancel {s : Int32} (hd : 2 ≤ d) (hc : RC I V) (hv : Inv V) (h : ∀ I' L', RC I' (o_cancel V s).2 → am_hi I' I → R (some (.int (o_cancel V s).1)) (am_mk I' L', 0, 0)) : am_meth d 13 [.ref 0, .int s] (am_mk I L, 0, 0) R := by
  obtain ⟨d, rfl⟩ : ∃ e, d = e + 1 := ⟨d - 1, by omega⟩
  refine ar_in rfl rfl rfl (r_H_cancel_0 (by omega) ?_)
  obtain ⟨⟨n1, n2, n3, n4, n5, n6, n7, n8⟩, ⟨e1, e2, e3, e4, e5, e6, e7, e8, e9, e10, e11, e12, e13, e14, e15, e16, e17⟩, -⟩ := id hc
  simp only [n1, n2, n3, n4, n5, n6, n7, n8, e1, e2, e3, e4, e5, e6, e7, e8, e9, e10, e11, e12, e13, e14, e15, e16, e17]
  unfold o_cancel at h
  refine ⟨fun c => ?_, fun c => ?_⟩
  · rw [if_pos c] at h
    have hk := hv.1.2.2.2.1
    have hk2 := hk.2
    rw [hk.1] at c
    obtain ⟨i, hi, rfl⟩ := am_nat c (by omega)
    rw [nI_clamp (by omega)] at h
    have hi2 : i < 60 := by omega
    refine ⟨i, rfl, hi2, fun c2 => ?_, fun c2 => ⟨i, hi2, rfl, fun c3 => ?_, fun c3 => ?_⟩⟩
    · rw [if_pos (Or.inl c2)] at h; (exact h _ _ (RC_no hc) (hi_up (by decide) hi_r))
    · rw [if_pos (Or.inr c3)] at h; (exact h _ _ (RC_no hc) (hi_up (by decide) hi_r))
    · rw [if_neg (fun q => q.elim c2 c3)] at h
      rintro _ rfl
      show R (some (.int (I 71 i))) _
      rw [hc.2.2.1.2.2.2.1 i hi2, if_pos hi]
      exact h _ _ ⟨hc.1, ⟨e1, e2, e3, e4, e5, e6, e7, e8, e9, e10, e11, e12, rfl, hc.2.1.2.2.2.2.2.2.2.2.2.2.2.2.2⟩, hc.2.2⟩ (hi_up (by decide) hi_r)
  · (rw [if_neg c] at h; exact h _ _ (RC_no hc) (hi_up (by decide) hi_r))
theorem M_cancel {s : Int32} (hd : 2 ≤ d) (hm : RM I V) (hv : Inv V) (h : ∀ I' L', RM I' (o_cancel V s).2 → am_lo I' I → R (some (.int (o_cancel V s).1)) (am_mk I' L', 0, 0)) : am_meth d 192 [.ref 113, .int s] (am_mk I L, 0, 0) R := by
  obtain ⟨d, rfl⟩ : ∃ e, d = e + 1 := ⟨d - 1, by omega⟩
  refine ar_in rfl rfl rfl (r_M_cancel_0 (by omega) ?_)
  have mc := hm.1; have mf := hm.2
  simp (disch := decide) only [mc, mf]
  unfold o_cancel at h
  refine ⟨fun c => ?_, fun c => ?_⟩
  · rw [if_pos c] at h
    have hk := hv.1.2.2.2.1
    have hk2 := hk.2
    rw [hk.1] at c
    obtain ⟨i, hi, rfl⟩ := am_nat c (by omega)
    rw [nI_clamp (by omega)] at h
    have hi2 : i < 60 := by omega
    refine ⟨i, rfl, hi2, fun c2 => ?_, fun c2 => ⟨i, hi2, rfl, fun c3 => ?_, fun c3 => ?_⟩⟩
    · rw [if_pos (Or.inl c2)] at h; (exact h _ _ (RM_no hm) (lo_up (by decide) lo_r))
    · rw [if_pos (Or.inr c3)] at h; (exact h _ _ (RM_no hm) (lo_up (by decide) lo_r))
    · rw [if_neg (fun q => q.elim c2 c3)] at h
      rintro _ rfl
      show R (some (.int (I 129 i))) _
      rw [mc 129 rfl]
      exact h _ _ (RM_up (by decide) rfl hm) (lo_up (by decide) lo_r)
  · (rw [if_neg c] at h; exact h _ _ (RM_no hm) (lo_up (by decide) lo_r))
theorem I_cancel {s : Int32} (hv : Inv V) : Inv (o_cancel V s).2 := by
  unfold o_cancel
  split
  · rename_i c
    split
    · exact hv
    · rename_i c2
      have hk := hv.1.2.2.2.1
      have hk2 := hk.2
      rw [hk.1] at c
      obtain ⟨i, hi, rfl⟩ := am_nat c (by omega)
      rw [nI_clamp (by omega)] at c2 ⊢
      have c3 : ¬ V 127 i < V 113 0 := fun q => c2 (Or.inl q)
      obtain ⟨vn, vt, vk, vs, vx, vr, vp⟩ := hv
      have u2 : ∀ j, upd (V 128) i 2 j = 1 → V 128 j = 1 := fun j q => by
        rw [am_uat] at q; split at q
        · exact absurd q (by decide)
        · exact q
      have u0 : ∀ j, upd (V 128) i 2 j = 0 → V 128 j = 0 := fun j q => by
        rw [am_uat] at q; split at q
        · exact absurd q (by decide)
        · exact q
      refine ⟨vn, vt, vk, ⟨fun s hs => ⟨(vs.1 s hs).1, (vs.1 s hs).2.1, (vs.1 s hs).2.2.1, ?_, fun q => ?_⟩, fun s hs => ⟨(vs.2 s hs).1, (vs.2 s hs).2.1, fun q => (vs.2 s hs).2.2.1 (u0 s q), fun q => (vs.2 s hs).2.2.2 (u2 s q)⟩⟩, fun s s' hs hs' ne q q' => vx s s' hs hs' ne (u2 s q) (u2 s' q'), ⟨fun r hr => ⟨(vr.1 r hr).1, fun q => ⟨((vr.1 r hr).2 q).1, ?_, ((vr.1 r hr).2 q).2.2⟩⟩, vr.2⟩, vp⟩
      · exact ix_u (n := 60) (fun j hj => (vs.1 j hj).2.2.2.1) (by decide) (by decide) s hs
      · have q2 : am_n V 113 14 ≤ s := q
        show upd (V 128) i 2 s = 0
        rw [am_uat, if_neg (by omega)]; exact (vs.1 s hs).2.2.2.2 q
      · show upd (V 128) i 2 (r / 2) = 1
        rw [am_uat, if_neg ?_]; exact ((vr.1 r hr).2 q).2.1
        intro e
        have w := ((vr.1 r hr).2 q).2.2
        rw [e] at w
        apply c3
        rw [(vs.1 i (by omega)).2.2.1.1, vn.1.1]
        exact nI_lt w (by have := vn.1.2; omega)
  · exact hv
def o_unput (V : am_V) : Int32 × am_V := (V 113 39, va_up V 113 (upd (V 113) 39 0))
theorem C_unput (hd : 2 ≤ d) (hc : RC I V) (hv : Inv V) (h : ∀ I' L', RC I' (o_unput V).2 → am_hi I' I → R (some (.int (o_unput V).1)) (am_mk I' L', 0, 0)) : am_meth d 26 [.ref 0] (am_mk I L, 0, 0) R := by
  obtain ⟨d, rfl⟩ : ∃ e, d = e + 1 := ⟨d - 1, by omega⟩
  refine ar_in rfl rfl rfl (r_H_unput_0 (by omega) ?_)
  obtain ⟨⟨n1, n2, n3, n4, n5, n6, n7, n8⟩, ⟨e1, e2, e3, e4, e5, e6, e7, e8, e9, e10, e11, e12, e13, e14, e15, e16, e17⟩, -⟩ := id hc
  rw [n7]
  exact h _ _ ⟨⟨n1, n2, n3, n4, n5, n6, rfl, n8⟩, hc.2⟩ (hi_up (by decide) hi_r)
theorem M_unput (hd : 2 ≤ d) (hm : RM I V) (hv : Inv V) (h : ∀ I' L', RM I' (o_unput V).2 → am_lo I' I → R (some (.int (o_unput V).1)) (am_mk I' L', 0, 0)) : am_meth d 206 [.ref 113] (am_mk I L, 0, 0) R := by
  obtain ⟨d, rfl⟩ : ∃ e, d = e + 1 := ⟨d - 1, by omega⟩
  refine ar_in rfl rfl rfl (r_M_unput_0 ?_)
  rintro _ rfl
  rw [hm.2 39 rfl]
  exact h _ _ (RM_f rfl hm) (lo_up (by decide) lo_r)
theorem ix_z39 {V : am_V} {j n : Nat} : am_ix (va_up V 113 (upd (V 113) j 0)) 113 j (n + 1) := am_ixz (by rw [am_vat, if_pos rfl, am_uat, if_pos rfl])
theorem I_unput (hv : Inv V) : Inv (o_unput V).2 := by
  obtain ⟨vn, vr⟩ := hv
  exact ⟨⟨vn.1, vn.2.1, vn.2.2.1, vn.2.2.2.1, vn.2.2.2.2.1, vn.2.2.2.2.2.1, ix_z39, vn.2.2.2.2.2.2.2⟩, vr⟩
/-- a number more in the row (39, 146, 12) or among those told (41, 147, 6) -/
def o_put (V : am_V) (j c n : Nat) (x : Int32) : Int32 × am_V := if x < -1 then o_no V 4 (-4) else if x ≤ 99 ∧ ¬ V 113 j = nI n then (V 113 j + 1, va_up (va_up V c (upd (V c) (am_n V 113 j) x)) 113 (upd (V 113) j (V 113 j + 1))) else o_no V 6 (-6)
theorem sub_lt {V : am_V} {j n : Nat} (h : am_ix V 113 j (n + 1)) (hn : n < 2 ^ 30) : 1 ≤ nI n - V 113 j ↔ ¬ V 113 j = nI n := by
  have h1 := h.1
  have h2 := h.2
  have e : nI n - V 113 j = nI (n - am_n V 113 j) := by
    rw [h1, show nI n = nI (n - am_n V 113 j + am_n V 113 j) from by rw [show n - am_n V 113 j + am_n V 113 j = n from by omega], ← nI_add, Int32.add_sub_cancel]
  rw [e, show (1 : Int32) = nI 1 from rfl, nI_leI (by decide) (by omega)]
  constructor
  · intro q e2; rw [h1, nI_eq (by omega) (by omega)] at e2; omega
  · intro q; have := lt_nI h hn q; omega
theorem C_put {v : Int32} (hd : 3 ≤ d) (hc : RC I V) (hv : Inv V) (h : ∀ I' L', RC I' (o_put V 39 146 12 v).2 → am_hi I' I → R (some (.int (o_put V 39 146 12 v).1)) (am_mk I' L', 0, 0)) : am_meth d 24 [.ref 0, .int v] (am_mk I L, 0, 0) R := by
  obtain ⟨d, rfl⟩ : ∃ e, d = e + 1 := ⟨d - 1, by omega⟩
  refine ar_in rfl rfl rfl (r_H_put_0 ?_)
  obtain ⟨d, rfl⟩ : ∃ e, d = e + 1 := ⟨d - 1, by omega⟩
  refine ar_in rfl rfl rfl (r_H_putInto_row_0 (by omega) ?_)
  obtain ⟨⟨n1, n2, n3, n4, n5, n6, n7, n8⟩, ⟨e1, e2, e3, e4, e5, e6, e7, e8, e9, e10, e11, e12, e13, e14, e15, e16, e17⟩, -⟩ := id hc
  unfold o_put at h
  have hk := hv.1.2.2.2.2.2.2.1
  have hs := sub_lt hk (by decide)
  refine ⟨fun c => ?_, fun c => ?_, fun c => ⟨fun c2 => ?_, fun c2 => ?_⟩⟩
  · refine ⟨_, _, _, rfl, rfl, ?_⟩
    (rw [if_pos c] at h; exact h _ _ (RC_no hc) (hi_up (by decide) hi_r))
  · refine ⟨_, _, _, rfl, rfl, ?_⟩
    rw [if_neg c.1, if_neg (fun q => Int32.not_le.mpr c.2 q.1)] at h; (exact h _ _ (RC_no hc) (hi_up (by decide) hi_r))
  · rw [n7] at c2
    have c3 := hs.mp c2
    have hx := lt_nI hk (by decide) c3
    have e0 : am_n I 95 0 = am_n V 113 39 := by unfold am_n; rw [n7]
    refine ⟨⟨by rw [e0, n7]; exact hk.1, by rw [e0]; exact hx⟩, _, _, _, rfl, rfl, ?_⟩
    rw [if_neg c.1, if_pos ⟨Int32.not_lt.mp c.2, c3⟩] at h
    unfold am_ad
    show R (some (.int (I 95 0 + 1))) _
    rw [e0, n7, e16]
    exact h _ _ ⟨⟨n1, n2, n3, n4, n5, n6, rfl, n8⟩, ⟨e1, e2, e3, e4, e5, e6, e7, e8, e9, e10, e11, e12, e13, e14, e15, rfl, e17⟩, hc.2.2⟩ (hi_up (by decide) (hi_up (by decide) hi_r))
  · refine ⟨_, _, _, rfl, rfl, ?_⟩
    rw [n7] at c2
    rw [if_neg c.1, if_neg (fun q => c2 (hs.mpr q.2))] at h; (exact h _ _ (RC_no hc) (hi_up (by decide) hi_r))
theorem C_tell {v : Int32} (hd : 3 ≤ d) (hc : RC I V) (hv : Inv V) (h : ∀ I' L', RC I' (o_put V 41 147 6 v).2 → am_hi I' I → R (some (.int (o_put V 41 147 6 v).1)) (am_mk I' L', 0, 0)) : am_meth d 33 [.ref 0, .int v] (am_mk I L, 0, 0) R := by
  obtain ⟨d, rfl⟩ : ∃ e, d = e + 1 := ⟨d - 1, by omega⟩
  refine ar_in rfl rfl rfl (r_H_tell_0 ?_)
  obtain ⟨d, rfl⟩ : ∃ e, d = e + 1 := ⟨d - 1, by omega⟩
  refine ar_in rfl rfl rfl (r_H_putInto_told_0 (by omega) ?_)
  obtain ⟨⟨n1, n2, n3, n4, n5, n6, n7, n8⟩, ⟨e1, e2, e3, e4, e5, e6, e7, e8, e9, e10, e11, e12, e13, e14, e15, e16, e17⟩, -⟩ := id hc
  unfold o_put at h
  have hk := hv.1.2.2.2.2.2.2.2
  have hs := sub_lt hk (by decide)
  refine ⟨fun c => ?_, fun c => ?_, fun c => ⟨fun c2 => ?_, fun c2 => ?_⟩⟩
  · refine ⟨_, _, _, rfl, rfl, ?_⟩
    (rw [if_pos c] at h; exact h _ _ (RC_no hc) (hi_up (by decide) hi_r))
  · refine ⟨_, _, _, rfl, rfl, ?_⟩
    rw [if_neg c.1, if_neg (fun q => Int32.not_le.mpr c.2 q.1)] at h; (exact h _ _ (RC_no hc) (hi_up (by decide) hi_r))
  · rw [n8] at c2
    have c3 := hs.mp c2
    have hx := lt_nI hk (by decide) c3
    have e0 : am_n I 97 0 = am_n V 113 41 := by unfold am_n; rw [n8]
    refine ⟨⟨by rw [e0, n8]; exact hk.1, by rw [e0]; exact hx⟩, _, _, _, rfl, rfl, ?_⟩
    rw [if_neg c.1, if_pos ⟨Int32.not_lt.mp c.2, c3⟩] at h
    unfold am_ad
    show R (some (.int (I 97 0 + 1))) _
    rw [e0, n8, e17]
    exact h _ _ ⟨⟨n1, n2, n3, n4, n5, n6, n7, rfl⟩, ⟨e1, e2, e3, e4, e5, e6, e7, e8, e9, e10, e11, e12, e13, e14, e15, e16, rfl⟩, hc.2.2⟩ (hi_up (by decide) (hi_up (by decide) hi_r))
  · refine ⟨_, _, _, rfl, rfl, ?_⟩
    rw [n8] at c2
    rw [if_neg c.1, if_neg (fun q => c2 (hs.mpr q.2))] at h; (exact h _ _ (RC_no hc) (hi_up (by decide) hi_r))
theorem M_put {v : Int32} (hd : 2 ≤ d) (hm : RM I V) (hv : Inv V) (h : ∀ I' L', RM I' (o_put V 39 146 12 v).2 → am_lo I' I → R (some (.int (o_put V 39 146 12 v).1)) (am_mk I' L', 0, 0)) : am_meth d 205 [.ref 113, .int v] (am_mk I L, 0, 0) R := by
  obtain ⟨d, rfl⟩ : ∃ e, d = e + 1 := ⟨d - 1, by omega⟩
  refine ar_in rfl rfl rfl (r_M_put_0 (by omega) ?_)
  have mc := hm.1; have mf := hm.2
  unfold o_put at h
  have hk := hv.1.2.2.2.2.2.2.1
  have e4 : I 113 39 = V 113 39 := mf 39 rfl
  refine ⟨fun c => ?_, fun c => ⟨fun c2 => ⟨fun c3 => ?_, fun c3 => ?_⟩, fun c2 => ?_⟩⟩
  · (rw [if_pos c] at h; exact h _ _ (RM_no hm) (lo_up (by decide) lo_r))
  · rw [e4] at c3
    rw [if_neg c, if_neg (fun q => q.2 c3)] at h; (exact h _ _ (RM_no hm) (lo_up (by decide) lo_r))
  · rw [e4] at c3
    rw [if_neg c, if_pos ⟨c2, c3⟩] at h
    have hx := lt_nI hk (by decide) c3
    refine ⟨_, hx, by rw [e4]; exact hk.1, ?_⟩
    rintro _ rfl _ rfl
    show R (some (.int (I 113 39 + 1))) _
    rw [e4]
    exact h _ _ (RM_f (V := va_up V 146 _) (by rw [← e4]; rfl) (RM_up (by decide) (by rw [mc 146 rfl]) hm)) (lo_up (by decide) (lo_up (by decide) lo_r))
  · rw [if_neg c, if_neg (fun q => c2 q.1)] at h; (exact h _ _ (RM_no hm) (lo_up (by decide) lo_r))
theorem M_tell {v : Int32} (hd : 2 ≤ d) (hm : RM I V) (hv : Inv V) (h : ∀ I' L', RM I' (o_put V 41 147 6 v).2 → am_lo I' I → R (some (.int (o_put V 41 147 6 v).1)) (am_mk I' L', 0, 0)) : am_meth d 224 [.ref 113, .int v] (am_mk I L, 0, 0) R := by
  obtain ⟨d, rfl⟩ : ∃ e, d = e + 1 := ⟨d - 1, by omega⟩
  refine ar_in rfl rfl rfl (r_M_tell_0 (by omega) ?_)
  have mc := hm.1; have mf := hm.2
  unfold o_put at h
  have hk := hv.1.2.2.2.2.2.2.2
  have e4 : I 113 41 = V 113 41 := mf 41 rfl
  refine ⟨fun c => ?_, fun c => ⟨fun c2 => ⟨fun c3 => ?_, fun c3 => ?_⟩, fun c2 => ?_⟩⟩
  · (rw [if_pos c] at h; exact h _ _ (RM_no hm) (lo_up (by decide) lo_r))
  · rw [e4] at c3
    rw [if_neg c, if_neg (fun q => q.2 c3)] at h; (exact h _ _ (RM_no hm) (lo_up (by decide) lo_r))
  · rw [e4] at c3
    rw [if_neg c, if_pos ⟨c2, c3⟩] at h
    have hx := lt_nI hk (by decide) c3
    refine ⟨_, hx, by rw [e4]; exact hk.1, ?_⟩
    rintro _ rfl _ rfl
    show R (some (.int (I 113 41 + 1))) _
    rw [e4]
    exact h _ _ (RM_f (V := va_up V 147 _) (by rw [← e4]; rfl) (RM_up (by decide) (by rw [mc 147 rfl]) hm)) (lo_up (by decide) (lo_up (by decide) lo_r))
  · rw [if_neg c, if_neg (fun q => c2 q.1)] at h; (exact h _ _ (RM_no hm) (lo_up (by decide) lo_r))
theorem row_u {f : Nat → Int32} {n k : Nat} {x : Int32} (h : ∀ j, j < n → f j = -1 ∨ f j = nI (f j).toNatClampNeg ∧ (f j).toNatClampNeg < 100) (h1 : ¬ x < -1) (h2 : x ≤ 99) : ∀ j, j < n → upd f k x j = -1 ∨ upd f k x j = nI (upd f k x j).toNatClampNeg ∧ (upd f k x j).toNatClampNeg < 100 := by
  intro j hj
  rw [am_uat]
  split
  · by_cases e : x = -1
    · exact Or.inl e
    · obtain ⟨y, hy, rfl⟩ := nI_of (x := x) (fun q => by
        apply e
        have a1 := Int32.toInt_inj (x := x) (y := -1)
        have a2 : (-1 : Int32).toInt = -1 := rfl
        rw [Int32.lt_iff_toInt_lt] at q h1
        have a3 : (0 : Int32).toInt = 0 := rfl
        exact a1.mp (by omega))
      rw [nI_clamp hy]
      refine Or.inr ⟨rfl, ?_⟩
      have := (nI_leI (b := 99) hy (by decide)).mp h2
      omega
  · exact h j hj
theorem I_put {v : Int32} (hv : Inv V) : Inv (o_put V 39 146 12 v).2 := by
  unfold o_put
  split
  · exact hv
  · split
    · rename_i c1 c2
      obtain ⟨vn, vt, vk, vs, vx, vr, vp⟩ := hv
      have hk := vn.2.2.2.2.2.2.1
      have hx := lt_nI hk (by decide) c2.2
      exact ⟨⟨vn.1, vn.2.1, vn.2.2.1, vn.2.2.2.1, vn.2.2.2.2.1, vn.2.2.2.2.2.1, ix_inc hk.1 hx (by decide), vn.2.2.2.2.2.2.2⟩, vt, vk, vs, vx, vr, ⟨row_u vp.1.1 c1 c2.1, vp.1.2⟩, vp.2⟩
    · exact hv
theorem I_tell {v : Int32} (hv : Inv V) : Inv (o_put V 41 147 6 v).2 := by
  unfold o_put
  split
  · exact hv
  · split
    · rename_i c1 c2
      obtain ⟨vn, vt, vk, vs, vx, vr, vp⟩ := hv
      have hk := vn.2.2.2.2.2.2.2
      have hx := lt_nI hk (by decide) c2.2
      exact ⟨⟨vn.1, vn.2.1, vn.2.2.1, vn.2.2.2.1, vn.2.2.2.2.1, vn.2.2.2.2.2.1, vn.2.2.2.2.2.2.1, ix_inc hk.1 hx (by decide)⟩, vt, vk, vs, vx, vr, ⟨vp.1.1, row_u vp.1.2.1 c1 c2.1, vp.1.2.2⟩, vp.2⟩
    · exact hv
def s_gone (V : am_V) (s : Nat) : Int32 := if V 132 (2 * s) < 0 ∨ V 132 (2 * s + 1) < 0 then -9 else V 132 (2 * s) &&& (V 132 (2 * s + 1) ^^^ -1)
def o_gone (V : am_V) (s : Int32) : Int32 × am_V := if 0 ≤ s ∧ s < V 113 14 then (s_gone V s.toNatClampNeg, V) else o_no V 1 (-1)
theorem it_lt {V : am_V} {r : Nat} (hv : Inv V) (hr : r < 120) : V 132 r < 0 ↔ V 132 r = -1 := by
  rcases hv.2.2.2.2.2.1.2 r hr with q | q
  · rw [q]; decide
  · constructor
    · intro c; exact absurd q (Int32.not_le.mpr c)
    · intro c; rw [c] at q; exact absurd q (by decide)
theorem C_gone {s : Int32} (hd : 2 ≤ d) (hc : RC I V) (hv : Inv V) (h : ∀ I' L', RC I' (o_gone V s).2 → am_hi I' I → R (some (.int (o_gone V s).1)) (am_mk I' L', 0, 0)) : am_meth d 40 [.ref 0, .int s] (am_mk I L, 0, 0) R := by
  obtain ⟨d, rfl⟩ : ∃ e, d = e + 1 := ⟨d - 1, by omega⟩
  refine ar_in rfl rfl rfl (r_H_gone_0 (by omega) ?_)
  obtain ⟨⟨n1, n2, n3, n4, n5, n6, n7, n8⟩, ⟨e1, e2, e3, e4, e5, e6, e7, e8, e9, e10, e11, e12, e13, e14, e15, e16, e17⟩, -⟩ := id hc
  simp only [n1, n2, n3, n4, n5, n6, n7, n8, e1, e2, e3, e4, e5, e6, e7, e8, e9, e10, e11, e12, e13, e14, e15, e16, e17]
  unfold o_gone at h
  refine ⟨fun c => ?_, fun c => ?_⟩
  · rw [if_pos c] at h
    have hk := hv.1.2.2.2.1
    have hk2 := hk.2
    rw [hk.1] at c
    obtain ⟨i, hi, rfl⟩ := am_nat c (by omega)
    rw [nI_clamp (by omega)] at h
    have hi2 : i < 60 := by omega
    have t1 := it_lt hv (r := 2 * i) (by omega)
    have t2 := it_lt hv (r := 2 * i + 1) (by omega)
    unfold s_gone at h
    simp only [t1, t2] at h
    refine ⟨i, rfl, hi2, ?_⟩
    rw [(hc.2.2.1.2.2.2.2 i hi2).1, (hc.2.2.1.2.2.2.2 i hi2).2]
    refine ⟨fun c2 => ⟨i, rfl, hi2, ?_⟩, fun c2 => ?_⟩
    · rw [(hc.2.2.1.2.2.2.2 i hi2).1, (hc.2.2.1.2.2.2.2 i hi2).2]
      rw [if_neg (fun q => q.elim c2.1 c2.2)] at h
      exact h _ _ hc hi_r
    · rw [if_pos (by by_cases q : V 132 (2 * i) = -1; exact Or.inl q; exact Or.inr (Decidable.byContradiction (fun w => c2 ⟨q, w⟩)))] at h
      exact h _ _ hc hi_r
  · (rw [if_neg c] at h; exact h _ _ (RC_no hc) (hi_up (by decide) hi_r))
theorem M_gone {s : Int32} (hd : 2 ≤ d) (hm : RM I V) (hv : Inv V) (h : ∀ I' L', RM I' (o_gone V s).2 → am_lo I' I → R (some (.int (o_gone V s).1)) (am_mk I' L', 0, 0)) : am_meth d 236 [.ref 113, .int s] (am_mk I L, 0, 0) R := by
  obtain ⟨d, rfl⟩ : ∃ e, d = e + 1 := ⟨d - 1, by omega⟩
  refine ar_in rfl rfl rfl (r_M_gone_0 (by omega) ?_)
  have mc := hm.1; have mf := hm.2
  simp (disch := decide) only [mc, mf]
  unfold o_gone at h
  refine ⟨fun c => ?_, fun c => ?_⟩
  · rw [if_pos c] at h
    have hk := hv.1.2.2.2.1
    have hk2 := hk.2
    rw [hk.1] at c
    obtain ⟨i, hi, rfl⟩ := am_nat c (by omega)
    rw [nI_clamp (by omega)] at h
    unfold s_gone at h
    refine ⟨i, rfl, by omega, fun c2 => ?_, fun c2 => ?_⟩
    · (rw [if_pos c2] at h; exact h _ _ hm lo_r)
    · (rw [if_neg c2] at h; exact h _ _ hm lo_r)
  · (rw [if_neg c] at h; exact h _ _ (RM_no hm) (lo_up (by decide) lo_r))
theorem I_gone {s : Int32} (hv : Inv V) : Inv (o_gone V s).2 := by
  unfold o_gone
  split <;> exact hv
end OP4
