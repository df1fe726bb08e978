/-! more calls -/
section OP3
variable {d : Nat} {I V : am_V} {L : Nat → Nat → Int64} {R : am_R}
def o_keeper (V : am_V) (t b p m : Int32) : Int32 × am_V := if 0 ≤ t ∧ t < 10 then (if b < 0 ∨ p < 1 ∨ m < 0 then o_no V 4 (-4) else if (b ≤ 255 ∧ p ≤ 2 ∧ m ≤ 99999) ∧ ¬ V 113 4 = 20 then (V 113 4, va_up (va_up (va_up (va_up (va_up V 117 (upd (V 117) (am_n V 113 4) t)) 118 (upd (V 118) (am_n V 113 4) b)) 119 (upd (V 119) (am_n V 113 4) p)) 120 (upd (V 120) (am_n V 113 4) m)) 113 (upd (V 113) 4 (V 113 4 + 1))) else o_no V 6 (-6)) else o_no V 1 (-1)
theorem lt_nI {V : am_V} {j n : Nat} (h : am_ix V 113 j (n + 1)) (hn : n < 2 ^ 30) (hx : ¬ V 113 j = nI n) : am_n V 113 j < n := by
  have h2 := h.2
  rcases Nat.lt_or_ge (am_n V 113 j) n with q | q
  · exact q
  · exfalso; apply hx; rw [h.1, show am_n V 113 j = n from by omega]
theorem C_keeper {t b p m : Int32} (hd : 2 ≤ d) (hc : RC I V) (hv : Inv V) (h : ∀ I' L', RC I' (o_keeper V t b p m).2 → am_hi I' I → R (some (.int (o_keeper V t b p m).1)) (am_mk I' L', 0, 0)) : am_meth d 7 [.ref 0, .int t, .int b, .int p, .int m] (am_mk I L, 0, 0) R := by
  obtain ⟨d, rfl⟩ : ∃ e, d = e + 1 := ⟨d - 1, by omega⟩
  refine ar_in rfl rfl rfl (r_H_keeper_0 (by omega) ?_)
  obtain ⟨⟨n1, n2, n3, n4, n5, n6, n7, n8⟩, ⟨e1, e2, e3, e4, e5, e6, e7, e8, e9, e10, e11, e12, e13, e14, e15, e16, e17⟩, -⟩ := id hc
  unfold o_keeper at h
  have hk := hv.1.2.1
  have c0 : ∀ {P : Prop}, I 16 0 < 20 → (¬ V 113 4 = 20 → P) → P := fun q f => f (fun e => by rw [n1, e] at q; exact absurd q (by decide))
  refine ⟨fun c => ⟨fun c1 => ?_, fun c1 => ⟨fun c2 => ?_, fun c2 => ⟨fun c3 => ?_, fun c3 => ⟨fun c4 => ⟨fun c5 => ⟨fun c6 => ⟨fun c7 => ?_, fun c7 => ?_⟩, fun c6 => ?_⟩, fun c5 => ?_⟩, fun c4 => ?_⟩⟩⟩⟩, fun c => ?_⟩
  · rw [if_pos c, if_pos (Or.inl c1)] at h; (exact h _ _ (RC_no hc) (hi_up (by decide) hi_r))
  · rw [if_pos c, if_pos (Or.inr (Or.inl c2))] at h; (exact h _ _ (RC_no hc) (hi_up (by decide) hi_r))
  · rw [if_pos c, if_pos (Or.inr (Or.inr c3))] at h; (exact h _ _ (RC_no hc) (hi_up (by decide) hi_r))
  · have c8 : ¬ V 113 4 = 20 := fun e => by rw [n1, e] at c7; exact absurd c7 (by decide)
    rw [if_pos c, if_neg (fun q => q.elim c1 (fun q => q.elim c2 c3)), if_pos ⟨⟨c4, c5, c6⟩, c8⟩] at h
    have e0 : am_n I 16 0 = am_n V 113 4 := by unfold am_n; rw [n1]
    have hx := lt_nI hk (by decide) c8
    refine ⟨⟨by rw [e0, n1]; exact hk.1, by rw [e0]; exact hx⟩, ?_⟩
    rw [n1]
    unfold am_ka
    rw [e0, n1, e4, e5, e6, e7]
    exact h _ _ ⟨⟨rfl, n2, n3, n4, n5, n6, n7, n8⟩, ⟨e1, e2, e3, rfl, rfl, rfl, rfl, hc.2.1.2.2.2.2.2.2.2⟩, hc.2.2⟩ (hi_up (by decide) (hi_up (by decide) (hi_up (by decide) (hi_up (by decide) (hi_up (by decide) hi_r)))))
  · have c8 : V 113 4 = 20 := by
      apply Decidable.byContradiction; intro e
      have hx := lt_nI hk (by decide) e
      rw [n1, hk.1] at c7; exact c7 (nI_lt (b := 20) hx (by decide))
    rw [if_pos c, if_neg (fun q => q.elim c1 (fun q => q.elim c2 c3)), if_neg (fun q => q.2 c8)] at h; (exact h _ _ (RC_no hc) (hi_up (by decide) hi_r))
  · rw [if_pos c, if_neg (fun q => q.elim c1 (fun q => q.elim c2 c3)), if_neg (fun q => c6 q.1.2.2)] at h; (exact h _ _ (RC_no hc) (hi_up (by decide) hi_r))
  · rw [if_pos c, if_neg (fun q => q.elim c1 (fun q => q.elim c2 c3)), if_neg (fun q => c5 q.1.2.1)] at h; (exact h _ _ (RC_no hc) (hi_up (by decide) hi_r))
  · rw [if_pos c, if_neg (fun q => q.elim c1 (fun q => q.elim c2 c3)), if_neg (fun q => c4 q.1.1)] at h; (exact h _ _ (RC_no hc) (hi_up (by decide) hi_r))
  · (rw [if_neg c] at h; exact h _ _ (RC_no hc) (hi_up (by decide) hi_r))
theorem M_keeper {t b p m : Int32} (hd : 2 ≤ d) (hm : RM I V) (hv : Inv V) (h : ∀ I' L', RM I' (o_keeper V t b p m).2 → am_lo I' I → R (some (.int (o_keeper V t b p m).1)) (am_mk I' L', 0, 0)) : am_meth d 156 [.ref 113, .int t, .int b, .int p, .int m] (am_mk I L, 0, 0) R := by
  obtain ⟨d, rfl⟩ : ∃ e, d = e + 1 := ⟨d - 1, by omega⟩
  refine ar_in rfl rfl rfl (r_M_keeper_0 (by omega) ?_)
  have mc := hm.1; have mf := hm.2
  unfold o_keeper at h
  have hk := hv.1.2.1
  have e4 : I 113 4 = V 113 4 := mf 4 rfl
  refine ⟨fun c => ⟨fun c1 => ?_, fun c1 => ⟨fun c2 => ?_, fun c2 => ⟨fun c3 => ?_, fun c3 => ⟨fun c4 => ⟨fun c5 => ⟨fun c6 => ⟨fun c7 => ?_, fun c7 => ?_⟩, fun c6 => ?_⟩, fun c5 => ?_⟩, fun c4 => ?_⟩⟩⟩⟩, fun c => ?_⟩
  · rw [if_pos c, if_pos (Or.inl c1)] at h; (exact h _ _ (RM_no hm) (lo_up (by decide) lo_r))
  · rw [if_pos c, if_pos (Or.inr (Or.inl c2))] at h; (exact h _ _ (RM_no hm) (lo_up (by decide) lo_r))
  · rw [if_pos c, if_pos (Or.inr (Or.inr c3))] at h; (exact h _ _ (RM_no hm) (lo_up (by decide) lo_r))
  · rw [e4] at c7
    rw [if_pos c, if_neg (fun q => q.elim c1 (fun q => q.elim c2 c3)), if_neg (fun q => q.2 c7)] at h; (exact h _ _ (RM_no hm) (lo_up (by decide) lo_r))
  · rw [e4] at c7
    rw [if_pos c, if_neg (fun q => q.elim c1 (fun q => q.elim c2 c3)), if_pos ⟨⟨c4, c5, c6⟩, c7⟩] at h
    have hx := lt_nI hk (by decide) c7
    have e5 : I 113 4 = nI (am_n V 113 4) := by rw [e4]; exact hk.1
    refine ⟨_, hx, e5, ?_⟩
    rintro _ rfl
    refine ⟨_, hx, e5, ?_⟩
    rintro _ rfl
    refine ⟨_, hx, e5, ?_⟩
    rintro _ rfl
    refine ⟨_, hx, e5, ?_⟩
    rintro _ rfl _ rfl
    show R (some (.int (I 113 4 + 1 - 1))) _
    rw [Int32.add_sub_cancel, e4]
    refine h _ _ ?_ (lo_up (by decide) (lo_up (by decide) (lo_up (by decide) (lo_up (by decide) (lo_up (by decide) lo_r)))))
    exact RM_f (V := va_up (va_up (va_up (va_up V 117 _) 118 _) 119 _) 120 _) (by rw [← e4]; rfl) (RM_up (by decide) (by rw [← mc 120 rfl]; rfl) (RM_up (by decide) (by rw [← mc 119 rfl]; rfl) (RM_up (by decide) (by rw [← mc 118 rfl]; rfl) (RM_up (by decide) (by rw [mc 117 rfl]) hm))))
  · rw [if_pos c, if_neg (fun q => q.elim c1 (fun q => q.elim c2 c3)), if_neg (fun q => c6 q.1.2.2)] at h; (exact h _ _ (RM_no hm) (lo_up (by decide) lo_r))
  · rw [if_pos c, if_neg (fun q => q.elim c1 (fun q => q.elim c2 c3)), if_neg (fun q => c5 q.1.2.1)] at h; (exact h _ _ (RM_no hm) (lo_up (by decide) lo_r))
  · rw [if_pos c, if_neg (fun q => q.elim c1 (fun q => q.elim c2 c3)), if_neg (fun q => c4 q.1.1)] at h; (exact h _ _ (RM_no hm) (lo_up (by decide) lo_r))
  · (rw [if_neg c] at h; exact h _ _ (RM_no hm) (lo_up (by decide) lo_r))
theorem ix_inc {f : Nat → Int32} {j n : Nat} (h : f j = nI (f j).toNatClampNeg) (hx : (f j).toNatClampNeg < n) (hn : n < 2 ^ 30) : upd f j (f j + 1) j = nI (upd f j (f j + 1) j).toNatClampNeg ∧ (upd f j (f j + 1) j).toNatClampNeg < n + 1 := by
  rw [am_uat, if_pos rfl, h, nI_1, nI_clamp (by omega)]
  exact ⟨rfl, by omega⟩
theorem I_keeper {t b p m : Int32} (hv : Inv V) : Inv (o_keeper V t b p m).2 := by
  unfold o_keeper
  split
  · rename_i c
    split
    · exact hv
    · split
      · rename_i c1 c2
        have hk := hv.1.2.1
        have hx := lt_nI hk (by decide) c2.2
        obtain ⟨vn, vt, vk, vs, vx, vr, vp⟩ := hv
        have b1 : 0 ≤ b ∧ b < nI 256 := by rw [show nI 256 = (256 : Int32) from rfl]; (simp (disch := omega) only [Int32.lt_iff_toInt_lt, Int32.le_iff_toInt_le, ← Int32.toInt_inj, Int32.reduceToInt, nI_toInt] at *; omega)
        have m1 : 0 ≤ m ∧ m < nI 100000 := by rw [show nI 100000 = (100000 : Int32) from rfl]; (simp (disch := omega) only [Int32.lt_iff_toInt_lt, Int32.le_iff_toInt_le, ← Int32.toInt_inj, Int32.reduceToInt, nI_toInt] at *; omega)
        refine ⟨⟨vn.1, ix_inc hk.1 hx (by decide), vn.2.2⟩, vt, fun k hk => ⟨?_, ?_, ?_, (vk k hk).2.2.2.1, (vk k hk).2.2.2.2⟩, vs, vx, vr, vp⟩
        · exact ix_u (n := 20) (fun j hj => (vk j hj).1) c (by decide) k hk
        · exact ix_u (n := 20) (fun j hj => (vk j hj).2.1) b1 (by decide) k hk
        · exact ix_u (n := 20) (fun j hj => (vk j hj).2.2.1) m1 (by decide) k hk
      · exact hv
  · exact hv
def o_house (V : am_V) (t b : Int32) : Int32 × am_V := if 0 ≤ t ∧ t < 10 then (if b < 0 then o_no V 4 (-4) else if b ≤ 255 ∧ ¬ V 113 10 = 20 then (V 113 10, va_up (va_up (va_up V 122 (upd (V 122) (am_n V 113 10) t)) 123 (upd (V 123) (am_n V 113 10) b)) 113 (upd (V 113) 10 (V 113 10 + 1))) else o_no V 6 (-6)) else o_no V 1 (-1)
theorem C_house {t b : Int32} (hd : 2 ≤ d) (hc : RC I V) (hv : Inv V) (h : ∀ I' L', RC I' (o_house V t b).2 → am_hi I' I → R (some (.int (o_house V t b).1)) (am_mk I' L', 0, 0)) : am_meth d 8 [.ref 0, .int t, .int b] (am_mk I L, 0, 0) R := by
  obtain ⟨d, rfl⟩ : ∃ e, d = e + 1 := ⟨d - 1, by omega⟩
  refine ar_in rfl rfl rfl (r_H_house_0 (by omega) ?_)
  obtain ⟨⟨n1, n2, n3, n4, n5, n6, n7, n8⟩, ⟨e1, e2, e3, e4, e5, e6, e7, e8, e9, e10, e11, e12, e13, e14, e15, e16, e17⟩, -⟩ := id hc
  unfold o_house at h
  have hk := hv.1.2.2.1
  refine ⟨fun c => ⟨fun c1 => ?_, fun c1 => ?_, fun c1 => ⟨fun c7 => ?_, fun c7 => ?_⟩⟩, fun c => ?_⟩
  · (rw [if_pos c, if_pos c1] at h; exact h _ _ (RC_no hc) (hi_up (by decide) hi_r))
  · rw [if_pos c, if_neg c1.1, if_neg (fun q => Int32.not_le.mpr c1.2 q.1)] at h; (exact h _ _ (RC_no hc) (hi_up (by decide) hi_r))
  · have c8 : ¬ V 113 10 = 20 := fun e => by rw [n2, e] at c7; exact absurd c7 (by decide)
    rw [if_pos c, if_neg c1.1, if_pos ⟨Int32.not_lt.mp c1.2, c8⟩] at h
    have e0 : am_n I 42 0 = am_n V 113 10 := by unfold am_n; rw [n2]
    have hx := lt_nI hk (by decide) c8
    refine ⟨⟨by rw [e0, n2]; exact hk.1, by rw [e0]; exact hx⟩, ?_⟩
    rw [n2]
    unfold am_ha
    rw [e0, n2, e8, e9]
    exact h _ _ ⟨⟨n1, rfl, n3, n4, n5, n6, n7, n8⟩, ⟨e1, e2, e3, e4, e5, e6, e7, rfl, rfl, hc.2.1.2.2.2.2.2.2.2.2.2⟩, hc.2.2⟩ (hi_up (by decide) (hi_up (by decide) (hi_up (by decide) hi_r)))
  · have c8 : V 113 10 = 20 := by
      apply Decidable.byContradiction; intro e
      have hx := lt_nI hk (by decide) e
      rw [n2, hk.1] at c7; exact c7 (nI_lt (b := 20) hx (by decide))
    rw [if_pos c, if_neg c1.1, if_neg (fun q => q.2 c8)] at h; (exact h _ _ (RC_no hc) (hi_up (by decide) hi_r))
  · (rw [if_neg c] at h; exact h _ _ (RC_no hc) (hi_up (by decide) hi_r))
theorem M_house {t b : Int32} (hd : 2 ≤ d) (hm : RM I V) (hv : Inv V) (h : ∀ I' L', RM I' (o_house V t b).2 → am_lo I' I → R (some (.int (o_house V t b).1)) (am_mk I' L', 0, 0)) : am_meth d 157 [.ref 113, .int t, .int b] (am_mk I L, 0, 0) R := by
  obtain ⟨d, rfl⟩ : ∃ e, d = e + 1 := ⟨d - 1, by omega⟩
  refine ar_in rfl rfl rfl (r_M_house_0 (by omega) ?_)
  have mc := hm.1; have mf := hm.2
  unfold o_house at h
  have hk := hv.1.2.2.1
  have e4 : I 113 10 = V 113 10 := mf 10 rfl
  refine ⟨fun c => ⟨fun c1 => ?_, fun c1 => ⟨fun c4 => ⟨fun c7 => ?_, fun c7 => ?_⟩, fun c4 => ?_⟩⟩, fun c => ?_⟩
  · (rw [if_pos c, if_pos c1] at h; exact h _ _ (RM_no hm) (lo_up (by decide) lo_r))
  · rw [e4] at c7
    rw [if_pos c, if_neg c1, if_neg (fun q => q.2 c7)] at h; (exact h _ _ (RM_no hm) (lo_up (by decide) lo_r))
  · rw [e4] at c7
    rw [if_pos c, if_neg c1, if_pos ⟨c4, c7⟩] at h
    have hx := lt_nI hk (by decide) c7
    have e5 : I 113 10 = nI (am_n V 113 10) := by rw [e4]; exact hk.1
    refine ⟨_, hx, e5, ?_⟩
    rintro _ rfl
    refine ⟨_, hx, e5, ?_⟩
    rintro _ rfl _ rfl
    show R (some (.int (I 113 10 + 1 - 1))) _
    rw [Int32.add_sub_cancel, e4]
    refine h _ _ ?_ (lo_up (by decide) (lo_up (by decide) (lo_up (by decide) lo_r)))
    exact RM_f (V := va_up (va_up V 122 _) 123 _) (by rw [← e4]; rfl) (RM_up (by decide) (by rw [← mc 123 rfl]; rfl) (RM_up (by decide) (by rw [mc 122 rfl]) hm))
  · rw [if_pos c, if_neg c1, if_neg (fun q => c4 q.1)] at h; (exact h _ _ (RM_no hm) (lo_up (by decide) lo_r))
  · (rw [if_neg c] at h; exact h _ _ (RM_no hm) (lo_up (by decide) lo_r))
theorem I_house {t b : Int32} (hv : Inv V) : Inv (o_house V t b).2 := by
  unfold o_house
  split
  · rename_i c
    split
    · exact hv
    · split
      · rename_i c1 c2
        have hk := hv.1.2.2.1
        have hx := lt_nI hk (by decide) c2.2
        obtain ⟨vn, vt, vk, vs, vx, vr, vp⟩ := hv
        have b1 : 0 ≤ b ∧ b < nI 256 := by rw [show nI 256 = (256 : Int32) from rfl]; (simp (disch := omega) only [Int32.lt_iff_toInt_lt, Int32.le_iff_toInt_le, ← Int32.toInt_inj, Int32.reduceToInt, nI_toInt] at *; omega)
        refine ⟨⟨vn.1, vn.2.1, ix_inc hk.1 hx (by decide), vn.2.2.2⟩, vt, fun k hk => ⟨(vk k hk).1, (vk k hk).2.1, (vk k hk).2.2.1, ?_, ?_⟩, vs, vx, vr, vp⟩
        · exact ix_u (n := 20) (fun j hj => (vk j hj).2.2.2.1) c (by decide) k hk
        · exact ix_u (n := 20) (fun j hj => (vk j hj).2.2.2.2) b1 (by decide) k hk
      · exact hv
  · exact hv
end OP3
