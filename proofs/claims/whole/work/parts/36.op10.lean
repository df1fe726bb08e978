/-! review -/
theorem s_n_flip {P Q : Nat → Bool} {j n : Nat} (hj : j < n) (h1 : ¬ P j = true) (h2 : Q j = true) (h : ∀ s, s ≠ j → Q s = P s) : s_n Q n = s_n P n + 1 := by
  induction n with
  | zero => omega
  | succ n ih =>
    by_cases e : j = n
    · subst e
      rw [s_n_t h2, s_n_f h1, s_n_congr (fun s hs => h s (by omega))]
    · have i := ih (by omega)
      have q := h n (by omega)
      by_cases c : P n = true
      · rw [s_n_t (by rw [q]; exact c), s_n_t c, i]
      · rw [s_n_f (by rw [q]; exact c), s_n_f c, i]
section OP10
variable {d : Nat} {I V : am_V} {L : Nat → Nat → Int64} {R : am_R}
def s_rv (V : am_V) (r : Nat) (x : Int32) : am_V := va_up (va_up V 130 (upd (V 130) r x)) 131 (upd (V 131) r (V 113 0))
def o_rv (V : am_V) (i r : Nat) (x : Int32) : Int32 × am_V := if ((V 127 i < V 113 0 ∧ V 113 0 ≤ V 127 i + 30) ∧ V 128 i = 1) ∧ V 130 r = 0 then (if x < 1 then o_no V 4 (-4) else if x ≤ 5 then (if s_ct (s_rv V r x 130) (s_rv V r x 131) (V 127) (r / 2) (r % 2) (V 113 0) = true then 1 else 0, s_rv V r x) else o_no V 6 (-6)) else o_no V 3 (-3)
def o_review (V : am_V) (s a x : Int32) : Int32 × am_V := if 0 ≤ s ∧ s < V 113 14 then (if a = 0 then o_rv V s.toNatClampNeg (2 * s.toNatClampNeg + 1) x else o_rv V s.toNatClampNeg (2 * s.toNatClampNeg) x) else o_no V 1 (-1)
theorem td_0 {i : Nat} (hc : RC I V) (hv : Inv V) (hi : i < 60) : I 82 i = 1501 ↔ V 130 (2 * i) = 0 := by
  rw [(hc.2.2.2.1.1 i hi).2.2.1]
  have q := hv.2.2.2.2.2.2.2 (2 * i) (by omega)
  have q2 := q.2
  split
  · rename_i c; exact ⟨fun _ => c, fun _ => rfl⟩
  · rename_i c; exact ⟨fun w => absurd w (by rw [q.1, show (1501 : Int32) = nI 1501 from rfl, nI_eq (by omega) (by decide)]; omega), fun w => absurd w c⟩
theorem td_1 {i : Nat} (hc : RC I V) (hv : Inv V) (hi : i < 60) : I 83 i = 1501 ↔ V 130 (2 * i + 1) = 0 := by
  rw [(hc.2.2.2.1.1 i hi).2.2.2]
  have q := hv.2.2.2.2.2.2.2 (2 * i + 1) (by omega)
  have q2 := q.2
  split
  · rename_i c; exact ⟨fun _ => c, fun _ => rfl⟩
  · rename_i c; exact ⟨fun w => absurd w (by rw [q.1, show (1501 : Int32) = nI 1501 from rfl, nI_eq (by omega) (by decide)]; omega), fun w => absurd w c⟩
theorem RC_rv0 {i : Nat} {x : Int32} (hc : RC I V) (hi : i < am_n V 113 14) (h0 : V 130 (2 * i) = 0) (hx : ¬ x = 0) : RC (am_ra I 79 82 i x) (s_rv V (2 * i) x) := by
  have n3 : I 66 0 = V 113 0 := hc.1.2.2.1
  obtain ⟨h1, h2, h3, h8, h9, h10⟩ := hc
  refine ⟨h1, h2, h3, ⟨fun s hs => ⟨?_, ?_, ?_, ?_⟩, ?_⟩, Or.inl rfl, h10⟩
  · show upd (I 79) i x s = upd (V 130) (2 * i) x (2 * s)
    rw [am_uat, am_uat]
    by_cases e : s = i
    · subst e; rw [if_pos rfl, if_pos rfl]
    · rw [if_neg e, if_neg (by omega)]; exact (h8.1 s hs).1
  · show I 80 s = upd (V 130) (2 * i) x (2 * s + 1)
    rw [am_uat, if_neg (by omega)]; exact (h8.1 s hs).2.1
  · show upd (I 82) i (I 66 0) s = if upd (V 130) (2 * i) x (2 * s) = 0 then 1501 else upd (V 131) (2 * i) (V 113 0) (2 * s)
    rw [am_uat]
    by_cases e : s = i
    · subst e; rw [if_pos rfl, pk_us, pk_us, if_neg hx]; exact n3
    · rw [if_neg e, pk_un (by omega), pk_un (by omega)]; exact (h8.1 s hs).2.2.1
  · show I 83 s = if upd (V 130) (2 * i) x (2 * s + 1) = 0 then 1501 else upd (V 131) (2 * i) (V 113 0) (2 * s + 1)
    rw [pk_un (by omega), pk_un (by omega)]; exact (h8.1 s hs).2.2.2
  · show I 74 0 + 1 = s_n (fun r => !decide (upd (V 130) (2 * i) x r = 0)) (2 * am_n V 113 14)
    rw [h8.2]
    refine (s_n_flip (j := 2 * i) (by omega) ?_ ?_ (fun s hs => ?_)).symm
    · rw [h0]; decide
    · show (!decide (upd (V 130) (2 * i) x (2 * i) = 0)) = true
      rw [pk_us, decide_eq_false hx]; rfl
    · show (!decide (upd (V 130) (2 * i) x s = 0)) = _
      rw [pk_un hs]
theorem RC_rv1 {i : Nat} {x : Int32} (hc : RC I V) (hi : i < am_n V 113 14) (h0 : V 130 (2 * i + 1) = 0) (hx : ¬ x = 0) : RC (am_ra I 80 83 i x) (s_rv V (2 * i + 1) x) := by
  have n3 : I 66 0 = V 113 0 := hc.1.2.2.1
  obtain ⟨h1, h2, h3, h8, h9, h10⟩ := hc
  refine ⟨h1, h2, h3, ⟨fun s hs => ⟨?_, ?_, ?_, ?_⟩, ?_⟩, Or.inl rfl, h10⟩
  · show I 79 s = upd (V 130) (2 * i + 1) x (2 * s)
    rw [am_uat, if_neg (by omega)]; exact (h8.1 s hs).1
  · show upd (I 80) i x s = upd (V 130) (2 * i + 1) x (2 * s + 1)
    rw [am_uat, am_uat]
    by_cases e : s = i
    · subst e; rw [if_pos rfl, if_pos rfl]
    · rw [if_neg e, if_neg (by omega)]; exact (h8.1 s hs).2.1
  · show I 82 s = if upd (V 130) (2 * i + 1) x (2 * s) = 0 then 1501 else upd (V 131) (2 * i + 1) (V 113 0) (2 * s)
    rw [pk_un (by omega), pk_un (by omega)]; exact (h8.1 s hs).2.2.1
  · show upd (I 83) i (I 66 0) s = if upd (V 130) (2 * i + 1) x (2 * s + 1) = 0 then 1501 else upd (V 131) (2 * i + 1) (V 113 0) (2 * s + 1)
    rw [am_uat]
    by_cases e : s = i
    · subst e; rw [if_pos rfl, pk_us, pk_us, if_neg hx]; exact n3
    · rw [if_neg e, pk_un (by omega), pk_un (by omega)]; exact (h8.1 s hs).2.2.2
  · show I 74 0 + 1 = s_n (fun r => !decide (upd (V 130) (2 * i + 1) x r = 0)) (2 * am_n V 113 14)
    rw [h8.2]
    refine (s_n_flip (j := 2 * i + 1) (by omega) ?_ ?_ (fun s hs => ?_)).symm
    · rw [h0]; decide
    · show (!decide (upd (V 130) (2 * i + 1) x (2 * i + 1) = 0)) = true
      rw [pk_us, decide_eq_false hx]; rfl
    · show (!decide (upd (V 130) (2 * i + 1) x s = 0)) = _
      rw [pk_un hs]
theorem I_rv {i r : Nat} {x : Int32} (hv : Inv V) (hi : i < am_n V 113 14) (hr : r / 2 = i) : Inv (o_rv V i r x).2 := by
  unfold o_rv
  split
  · rename_i c
    split
    · exact hv
    · split
      · rename_i c1 c2
        have ht := hv.1.1
        have ht2 := ht.2
        have x0 : 0 ≤ x ∧ x < nI 6 := by rw [show nI 6 = (6 : Int32) from rfl]; clear c; (simp (disch := omega) only [Int32.lt_iff_toInt_lt, Int32.le_iff_toInt_le, ← Int32.toInt_inj, Int32.reduceToInt, nI_toInt] at *; omega)
        have t0 : 0 ≤ V 113 0 ∧ V 113 0 < nI 1501 := by rw [ht.1]; exact ⟨nI_pos' (by omega), nI_lt ht2 (by decide)⟩
        obtain ⟨vn, vt, vk, vs, vx, vr, vp, vd⟩ := hv
        refine ⟨vn, vt, vk, vs, vx, ⟨fun q hq => ⟨?_, fun w => ?_⟩, vr.2⟩, vp, ?_⟩
        · exact ix_u (n := 120) (fun j hj => (vr.1 j hj).1) x0 (by decide) q hq
        · by_cases e : q = r
          · subst e
            rw [hr]
            refine ⟨hi, c.1.2, ?_⟩
            have h60 : i < 60 := by have := vn.2.2.2.1.2; omega
            have c0 := c.1.1.1
            have vq := (vs.1 i h60).2.2.1
            have vq2 := vq.2
            rw [vq.1, ht.1] at c0
            have c00 := (nI_ltI (by omega) (by omega)).mp c0
            exact c00
          · have w2 : ¬ upd (V 130) r x q = 0 := w
            rw [pk_un e] at w2
            exact (vr.1 q hq).2 w2
        · exact ix_u (n := 120) (fun j hj => vd j hj) t0 (by decide)
      · exact hv
  · exact hv
theorem I_review {s a x : Int32} (hv : Inv V) : Inv (o_review V s a x).2 := by
  unfold o_review
  split
  · rename_i c
    have hk := hv.1.2.2.2.1
    have hk2 := hk.2
    rw [hk.1] at c
    obtain ⟨i, hi, rfl⟩ := am_nat c (by omega)
    rw [nI_clamp (by omega)]
    split
    · exact I_rv hv hi (by omega)
    · exact I_rv hv hi (by omega)
  · exact hv
theorem C_review {s a x : Int32} (hd : 3 ≤ d) (hc : RC I V) (hv : Inv V) (h : ∀ I' L', RC I' (o_review V s a x).2 → am_hi I' I → R (some (.int (o_review V s a x).1)) (am_mk I' L', 0, 0)) : am_meth d 19 [.ref 0, .int s, .int a, .int x] (am_mk I L, 0, 0) R := by
  obtain ⟨d, rfl⟩ : ∃ e, d = e + 1 := ⟨d - 1, by omega⟩
  have hvr := I_review (s := s) (a := a) (x := x) hv
  refine ar_in rfl rfl rfl (r_H_review_0 (by omega) ?_)
  obtain ⟨⟨n1, n2, n3, n4, n5, n6, n7, n8⟩, ⟨e1, e2, e3, e4, e5, e6, e7, e8, e9, e10, e11, e12, e13, e14, e15, e16, e17⟩, -⟩ := id hc
  unfold o_review at h hvr
  have ht := hv.1.1
  have ht2 := ht.2
  refine ⟨fun c => ?_, fun c => ?_⟩
  · rw [n4] at c
    rw [if_pos c] at h hvr
    have hk := hv.1.2.2.2.1
    have hk2 := hk.2
    rw [hk.1] at c
    obtain ⟨i, hi, rfl⟩ := am_nat c (by omega)
    rw [nI_clamp (by omega)] at h hvr
    have hi2 : i < 60 := by omega
    refine ⟨fun a0 => ⟨i, rfl, hi2, ?_⟩, fun a0 => ⟨i, rfl, hi2, ?_⟩⟩
    · rw [if_pos a0] at h hvr
      rw [td_1 hc hv hi2, e12, e13, n3]
      unfold o_rv at h hvr
      refine ⟨fun c1 => ?_, fun c1 => ?_⟩
      · rw [if_pos c1] at h hvr
        refine ⟨fun c2 => ?_, fun c2 => ?_, fun c2 => ⟨i, rfl, hi2, i, rfl, hi2, ?_⟩⟩
        · (rw [if_pos c2] at h; exact h _ _ (RC_no hc) (hi_up (by decide) hi_r))
        · rw [if_neg c2.1, if_neg (Int32.not_le.mpr c2.2)] at h; (exact h _ _ (RC_no hc) (hi_up (by decide) hi_r))
        · rw [if_neg c2.1, if_pos (Int32.not_lt.mp c2.2)] at h hvr
          have hx : ¬ x = 0 := fun e => c2.1 (by rw [e]; decide)
          have hr := RC_rv1 hc hi c1.2 hx
          have g := cg_1 hr hvr hi2 (k := am_n V 113 0) (by omega)
          rw [← ht.1] at g
          rw [show s_rv V (2 * i + 1) x 127 = V 127 from rfl] at g
          have e66 : (am_ra I 80 83 i x) 66 0 = V 113 0 := n3
          rw [e66, g]
          rw [e_21, e_21m] at h
          refine ⟨fun c3 => ?_, fun c3 => ?_⟩
          · rw [if_pos c3] at h; exact h _ _ hr (hi_up (by decide) (hi_up (by decide) (hi_up (by decide) (hi_up (by decide) hi_r))))
          · rw [if_neg c3] at h; exact h _ _ hr (hi_up (by decide) (hi_up (by decide) (hi_up (by decide) (hi_up (by decide) hi_r))))
      · (rw [if_neg c1] at h; exact h _ _ (RC_no hc) (hi_up (by decide) hi_r))
    · rw [if_neg a0] at h hvr
      rw [td_0 hc hv hi2, e12, e13, n3]
      unfold o_rv at h hvr
      refine ⟨fun c1 => ?_, fun c1 => ?_⟩
      · rw [if_pos c1] at h hvr
        refine ⟨fun c2 => ?_, fun c2 => ?_, fun c2 => ⟨i, rfl, hi2, i, rfl, hi2, ?_⟩⟩
        · (rw [if_pos c2] at h; exact h _ _ (RC_no hc) (hi_up (by decide) hi_r))
        · rw [if_neg c2.1, if_neg (Int32.not_le.mpr c2.2)] at h; (exact h _ _ (RC_no hc) (hi_up (by decide) hi_r))
        · rw [if_neg c2.1, if_pos (Int32.not_lt.mp c2.2)] at h hvr
          have hx : ¬ x = 0 := fun e => c2.1 (by rw [e]; decide)
          have hr := RC_rv0 hc hi c1.2 hx
          have g := cg_0 hr hvr hi2 (k := am_n V 113 0) (by omega)
          rw [← ht.1] at g
          rw [show s_rv V (2 * i) x 127 = V 127 from rfl] at g
          have e66 : (am_ra I 79 82 i x) 66 0 = V 113 0 := n3
          rw [e66, g]
          rw [e_2, e_2m] at h
          refine ⟨fun c3 => ?_, fun c3 => ?_⟩
          · rw [if_pos c3] at h; exact h _ _ hr (hi_up (by decide) (hi_up (by decide) (hi_up (by decide) (hi_up (by decide) hi_r))))
          · rw [if_neg c3] at h; exact h _ _ hr (hi_up (by decide) (hi_up (by decide) (hi_up (by decide) (hi_up (by decide) hi_r))))
      · (rw [if_neg c1] at h; exact h _ _ (RC_no hc) (hi_up (by decide) hi_r))
  · rw [n4] at c
    (rw [if_neg c] at h; exact h _ _ (RC_no hc) (hi_up (by decide) hi_r))
theorem M_rvx {i r : Nat} {x : Int32} (hm : RM I V) (hr : r < 120) (c1 : ((V 127 i < V 113 0 ∧ V 113 0 ≤ V 127 i + 30) ∧ V 128 i = 1) ∧ V 130 r = 0) (c2 : ¬ x < 1) (c3 : x ≤ 5) (h : ∀ I' L', RM I' (o_rv V i r x).2 → am_lo I' I → R (some (.int (o_rv V i r x).1)) (am_mk I' L', 0, 0)) : ∀ I_16 : Nat → Nat → Int32, I_16 = va_up I 130 (upd (V 130) r x) → (∀ I_18 : Nat → Nat → Int32, I_18 = va_up I_16 131 (upd (I_16 131) r (I_16 113 0)) → ((r < 120) ∧ (((s_ct (I_18 130) (I_18 131) (I_18 127) (r / 2) (r % 2) (I_18 113 0) = true → (R (some (.int 1)) (am_mk I_18 L, 0, 0))) ∧ (¬ (s_ct (I_18 130) (I_18 131) (I_18 127) (r / 2) (r % 2) (I_18 113 0) = true) → (R (some (.int 0)) (am_mk I_18 L, 0, 0))))))) := by
  rintro _ rfl _ rfl
  have hf : RM (va_up (va_up I 130 (upd (V 130) r x)) 131 (upd ((va_up I 130 (upd (V 130) r x)) 131) r ((va_up I 130 (upd (V 130) r x)) 113 0))) (s_rv V r x) := by
    refine RM_up (by decide) ?_ (RM_up (by decide) rfl hm)
    show upd (I 131) r (I 113 0) = _
    rw [hm.1 131 rfl, hm.2 0 rfl]
  have e : (s_ct ((va_up (va_up I 130 (upd (V 130) r x)) 131 (upd ((va_up I 130 (upd (V 130) r x)) 131) r ((va_up I 130 (upd (V 130) r x)) 113 0))) 130) ((va_up (va_up I 130 (upd (V 130) r x)) 131 (upd ((va_up I 130 (upd (V 130) r x)) 131) r ((va_up I 130 (upd (V 130) r x)) 113 0))) 131) (I 127) (r / 2) (r % 2) (I 113 0)) = s_ct (s_rv V r x 130) (s_rv V r x 131) (V 127) (r / 2) (r % 2) (V 113 0) := by
    rw [hf.1 130 rfl, hf.1 131 rfl, hm.1 127 rfl, hm.2 0 rfl]
  unfold o_rv at h
  rw [if_pos c1, if_neg c2, if_pos c3] at h
  refine ⟨hr, fun c => ?_, fun c => ?_⟩
  · have c' := c; change s_ct _ _ (I 127) _ _ (I 113 0) = true at c'
    rw [e] at c'
    rw [if_pos c'] at h
    exact h _ _ hf (lo_up (by decide) (lo_up (by decide) lo_r))
  · have c' := c; change ¬ s_ct _ _ (I 127) _ _ (I 113 0) = true at c'
    rw [e] at c'
    rw [if_neg c'] at h
    exact h _ _ hf (lo_up (by decide) (lo_up (by decide) lo_r))
theorem M_review {s a x : Int32} (hd : 3 ≤ d) (hm : RM I V) (hv : Inv V) (h : ∀ I' L', RM I' (o_review V s a x).2 → am_lo I' I → R (some (.int (o_review V s a x).1)) (am_mk I' L', 0, 0)) : am_meth d 200 [.ref 113, .int s, .int a, .int x] (am_mk I L, 0, 0) R := by
  obtain ⟨d, rfl⟩ : ∃ e, d = e + 1 := ⟨d - 1, by omega⟩
  refine ar_in rfl rfl rfl (r_M_review_0 (by omega) ?_)
  have mc := hm.1; have mf := hm.2
  rw [mf 14 rfl]
  unfold o_review at h
  refine ⟨fun c => ?_, fun c => ?_⟩
  · rw [if_pos c] at h
    have hk := hv.1.2.2.2.1
    have hk2 := hk.2
    rw [hk.1] at c
    obtain ⟨i, hi, rfl⟩ := am_nat c (by omega)
    rw [nI_clamp (by omega)] at h
    have hi2 : i < 60 := by omega
    refine ⟨fun a0 => ⟨i, hi2, rfl, ?_⟩, fun a0 => ⟨i, hi2, rfl, ?_⟩⟩
    · rw [if_pos a0] at h
      have sp := st_pos hv (r := 2 * i + 1) (by omega)
      have h' := h
      unfold o_rv at h
      rw [mc 128 rfl, mc 127 rfl, mf 0 rfl]
      refine ⟨fun c1 => ⟨hi2, fun c2 => ⟨2 * i + 1, by omega, am_2s1, ?_⟩, fun c2 => ?_⟩, fun c1 => ?_⟩
      · rw [mc 130 rfl]
        refine ⟨fun c3 => ⟨fun c4 => ?_, fun c4 => ?_⟩, fun c3 => ?_⟩
        · have z : V 130 (2 * i + 1) = 0 := Decidable.byContradiction (fun q => Int32.not_le.mpr (sp.mpr q) c3)
          have cc : ((V 127 i < V 113 0 ∧ V 113 0 ≤ V 127 i + 30) ∧ V 128 i = 1) ∧ V 130 (2 * i + 1) = 0 := ⟨⟨⟨c2, c4⟩, c1⟩, z⟩
          refine ⟨fun c5 => ?_, fun c5 => ⟨fun c6 => M_rvx hm (by omega) cc c5 c6 h', fun c6 => ?_⟩⟩
          · (rw [if_pos cc, if_pos c5] at h; exact h _ _ (RM_no hm) (lo_up (by decide) lo_r))
          · (rw [if_pos cc, if_neg c5, if_neg c6] at h; exact h _ _ (RM_no hm) (lo_up (by decide) lo_r))
        · rw [if_neg (fun q => c4 q.1.1.2)] at h; (exact h _ _ (RM_no hm) (lo_up (by decide) lo_r))
        · rw [if_neg (fun q => c3 (by rw [q.2]; decide))] at h; (exact h _ _ (RM_no hm) (lo_up (by decide) lo_r))
      · rw [if_neg (fun q => c2 q.1.1.1)] at h; (exact h _ _ (RM_no hm) (lo_up (by decide) lo_r))
      · rw [if_neg (fun q => c1 q.1.2)] at h; (exact h _ _ (RM_no hm) (lo_up (by decide) lo_r))
    · rw [if_neg a0] at h
      have sp := st_pos hv (r := 2 * i) (by omega)
      have h' := h
      unfold o_rv at h
      rw [mc 128 rfl, mc 127 rfl, mf 0 rfl]
      refine ⟨fun c1 => ⟨hi2, fun c2 => ⟨2 * i, by omega, am_2s, ?_⟩, fun c2 => ?_⟩, fun c1 => ?_⟩
      · rw [mc 130 rfl]
        refine ⟨fun c3 => ⟨fun c4 => ?_, fun c4 => ?_⟩, fun c3 => ?_⟩
        · have z : V 130 (2 * i) = 0 := Decidable.byContradiction (fun q => Int32.not_le.mpr (sp.mpr q) c3)
          have cc : ((V 127 i < V 113 0 ∧ V 113 0 ≤ V 127 i + 30) ∧ V 128 i = 1) ∧ V 130 (2 * i) = 0 := ⟨⟨⟨c2, c4⟩, c1⟩, z⟩
          refine ⟨fun c5 => ?_, fun c5 => ⟨fun c6 => M_rvx hm (by omega) cc c5 c6 h', fun c6 => ?_⟩⟩
          · (rw [if_pos cc, if_pos c5] at h; exact h _ _ (RM_no hm) (lo_up (by decide) lo_r))
          · (rw [if_pos cc, if_neg c5, if_neg c6] at h; exact h _ _ (RM_no hm) (lo_up (by decide) lo_r))
        · rw [if_neg (fun q => c4 q.1.1.2)] at h; (exact h _ _ (RM_no hm) (lo_up (by decide) lo_r))
        · rw [if_neg (fun q => c3 (by rw [q.2]; decide))] at h; (exact h _ _ (RM_no hm) (lo_up (by decide) lo_r))
      · rw [if_neg (fun q => c2 q.1.1.1)] at h; (exact h _ _ (RM_no hm) (lo_up (by decide) lo_r))
      · rw [if_neg (fun q => c1 q.1.2)] at h; (exact h _ _ (RM_no hm) (lo_up (by decide) lo_r))
  · (rw [if_neg c] at h; exact h _ _ (RM_no hm) (lo_up (by decide) lo_r))
end OP10
