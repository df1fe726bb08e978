/-! more calls -/
section OP2
variable {d : Nat} {I V : am_V} {L : Nat → Nat → Int64} {R : am_R}
def o_way (V : am_V) (a b x : Int32) : Int32 × am_V := if ((0 ≤ a ∧ a < 10) ∧ (0 ≤ b ∧ b < 10)) ∧ ¬ a = b then (if x < 1 then o_no V 4 (-4) else if x ≤ 240 then (V 115 (10 * a.toNatClampNeg + b.toNatClampNeg), va_up V 115 (upd (upd (V 115) (10 * a.toNatClampNeg + b.toNatClampNeg) x) (10 * b.toNatClampNeg + a.toNatClampNeg) x)) else o_no V 6 (-6)) else o_no V 1 (-1)
theorem RC_r10 {I' : am_V} {g : Nat → Int32} (hx : ∀ c, c < 6 ∨ 15 < c → I' c = I c) (hn : ∀ a b, a < 10 → b < 10 → am_r10 I' a b = g (10 * a + b)) (hc : RC I V) : RC I' (va_up V 115 g) := by
  obtain ⟨h1, h2, ⟨h3, h4⟩, h5, h6, h7⟩ := hc
  refine ⟨?_, ?_, ⟨hn, ?_⟩, ?_, ?_, ?_⟩
  · unfold Cn at h1 ⊢; simp (disch := decide) only [hx]; exact h1
  · unfold Ce at h2 ⊢; simp (disch := decide) only [hx]; exact h2
  · unfold am_r20 am_q20 at h4 ⊢; simp (disch := decide) only [hx]; exact h4
  · unfold Cr at h5 ⊢; simp (disch := decide) only [hx]; exact h5
  · unfold Cc at h6 ⊢; simp (disch := decide) only [hx]; exact h6
  · unfold Cp at h7 ⊢; simp (disch := decide) only [hx]; exact h7
theorem RC_r20 {I' : am_V} {g : Nat → Int32} (hx : ∀ c, c < 22 ∨ 41 < c → I' c = I c) (hn : ∀ k l, k < 20 → l < 5 → am_r20 I' k l = g (5 * k + l)) (hc : RC I V) : RC I' (va_up V 121 g) := by
  obtain ⟨h1, h2, ⟨h3, h3b, h4⟩, h5, h6, h7⟩ := hc
  refine ⟨?_, ?_, ⟨?_, hn, ?_⟩, ?_, ?_, ?_⟩
  · unfold Cn at h1 ⊢; simp (disch := decide) only [hx]; exact h1
  · unfold Ce at h2 ⊢; simp (disch := decide) only [hx]; exact h2
  · unfold am_r10 at h3 ⊢; simp (disch := decide) only [hx]; exact h3
  · unfold am_q20 at h4 ⊢; simp (disch := decide) only [hx]; exact h4
  · unfold Cr at h5 ⊢; simp (disch := decide) only [hx]; exact h5
  · unfold Cc at h6 ⊢; simp (disch := decide) only [hx]; exact h6
  · unfold Cp at h7 ⊢; simp (disch := decide) only [hx]; exact h7
theorem RC_q20 {I' : am_V} {g : Nat → Int32} (hx : ∀ c, c < 46 ∨ 65 < c → I' c = I c) (hn : ∀ h i, h < 20 → i < 31 → am_q20 I' h i = g (31 * h + i)) (hc : RC I V) : RC I' (va_up V 124 g) := by
  obtain ⟨h1, h2, ⟨h3, h3b, h3c, h4⟩, h5, h6, h7⟩ := hc
  refine ⟨?_, ?_, ⟨?_, ?_, hn, ?_⟩, ?_, ?_, ?_⟩
  · unfold Cn at h1 ⊢; simp (disch := decide) only [hx]; exact h1
  · unfold Ce at h2 ⊢; simp (disch := decide) only [hx]; exact h2
  · unfold am_r10 at h3 ⊢; simp (disch := decide) only [hx]; exact h3
  · unfold am_r20 at h3b ⊢; simp (disch := decide) only [hx]; exact h3b
  · simp (disch := decide) only [hx]; exact h4
  · unfold Cr at h5 ⊢; simp (disch := decide) only [hx]; exact h5
  · unfold Cc at h6 ⊢; simp (disch := decide) only [hx]; exact h6
  · unfold Cp at h7 ⊢; simp (disch := decide) only [hx]; exact h7
theorem C_way {a b x : Int32} (hd : 2 ≤ d) (hc : RC I V) (hv : Inv V) (h : ∀ I' L', RC I' (o_way V a b x).2 → am_hi I' I → R (some (.int (o_way V a b x).1)) (am_mk I' L', 0, 0)) : am_meth d 4 [.ref 0, .int a, .int b, .int x] (am_mk I L, 0, 0) R := by
  obtain ⟨d, rfl⟩ : ∃ e, d = e + 1 := ⟨d - 1, by omega⟩
  refine ar_in rfl rfl rfl (r_H_way_0 (by omega) ?_)
  unfold o_way at h
  refine ⟨fun c => ⟨fun c2 => ⟨fun c3 => ?_, fun c3 => ⟨fun c4 => ?_, fun c4 => ?_, fun c4 => ?_⟩⟩, fun c2 => ?_⟩, fun c => ?_⟩
  · rw [if_neg (fun q => q.2 c3)] at h; (exact h _ _ (RC_no hc) (hi_up (by decide) hi_r))
  · rw [if_pos ⟨⟨c, c2⟩, c3⟩, if_pos c4] at h; (exact h _ _ (RC_no hc) (hi_up (by decide) hi_r))
  · rw [if_pos ⟨⟨c, c2⟩, c3⟩, if_neg c4.1, if_neg (Int32.not_le.mpr c4.2)] at h; (exact h _ _ (RC_no hc) (hi_up (by decide) hi_r))
  · rw [if_pos ⟨⟨c, c2⟩, c3⟩, if_neg c4.1, if_pos (Int32.not_lt.mp c4.2)] at h
    obtain ⟨i, hi, rfl⟩ := am_nat (m := 10) c (by decide)
    obtain ⟨j, hj, rfl⟩ := am_nat (m := 10) c2 (by decide)
    rw [nI_clamp (by omega), nI_clamp (by omega)] at h
    refine ⟨i, hi, rfl, j, hj, rfl, ?_⟩
    rintro _ rfl _ rfl
    have w := hc.2.2.1.1 i j hi hj
    rw [r10_e hi] at w
    rw [w]
    refine h _ _ (RC_r10 (I := I) (fun c hc => ?_) (fun a b ha hb => ?_) hc) (fun c hc => ?_)
    · rw [am_vat, if_neg (by omega), am_vat, if_neg (by omega)]
    · have q := hc.2.2.1.1 a b ha hb
      rw [r10_e ha] at q ⊢
      have ij : i ≠ j := fun e => c3 (by rw [e])
      simp only [am_vat, am_uat, Nat.add_left_cancel_iff]
      by_cases e1 : a = j
      · subst e1
        rw [if_pos rfl, if_neg (Ne.symm ij), am_uat]
        by_cases e2 : b = i
        · subst e2; rw [if_pos rfl, if_pos rfl]
        · rw [if_neg e2, if_neg (by omega), if_neg (by omega)]; exact q
      · rw [if_neg e1]
        by_cases e2 : a = i
        · subst e2
          rw [if_pos rfl, am_uat]
          by_cases e3 : b = j
          · subst e3; rw [if_pos rfl, if_neg (by omega), if_pos rfl]
          · rw [if_neg e3, if_neg (by omega), if_neg (by omega)]; exact q
        · rw [if_neg e2, if_neg (by omega), if_neg (by omega)]; exact q
    · rw [am_vat, if_neg (by omega), am_vat, if_neg (by omega)]
  · rw [if_neg (fun q => c2 q.1.2)] at h; (exact h _ _ (RC_no hc) (hi_up (by decide) hi_r))
  · rw [if_neg (fun q => c q.1.1)] at h; (exact h _ _ (RC_no hc) (hi_up (by decide) hi_r))
theorem M_way {a b x : Int32} (hd : 2 ≤ d) (hm : RM I V) (hv : Inv V) (h : ∀ I' L', RM I' (o_way V a b x).2 → am_lo I' I → R (some (.int (o_way V a b x).1)) (am_mk I' L', 0, 0)) : am_meth d 154 [.ref 113, .int a, .int b, .int x] (am_mk I L, 0, 0) R := by
  obtain ⟨d, rfl⟩ : ∃ e, d = e + 1 := ⟨d - 1, by omega⟩
  refine ar_in rfl rfl rfl (r_M_way_0 (by omega) ?_)
  have mc := hm.1; have mf := hm.2
  simp (disch := decide) only [mc, mf]
  unfold o_way at h
  refine ⟨fun c => ⟨fun c2 => ⟨fun c3 => ?_, fun c3 => ⟨fun c4 => ?_, fun c4 => ⟨fun c5 => ?_, fun c5 => ?_⟩⟩⟩, fun c2 => ?_⟩, fun c => ?_⟩
  · rw [if_neg (fun q => q.2 c3)] at h; (exact h _ _ (RM_no hm) (lo_up (by decide) lo_r))
  · rw [if_pos ⟨⟨c, c2⟩, c3⟩, if_pos c4] at h; (exact h _ _ (RM_no hm) (lo_up (by decide) lo_r))
  · rw [if_pos ⟨⟨c, c2⟩, c3⟩, if_neg c4, if_pos c5] at h
    obtain ⟨i, hi, rfl⟩ := am_nat (m := 10) c (by decide)
    obtain ⟨j, hj, rfl⟩ := am_nat (m := 10) c2 (by decide)
    rw [nI_clamp (by omega), nI_clamp (by omega)] at h
    refine ⟨10 * i + j, by omega, am_10, ?_⟩
    rintro _ rfl
    refine ⟨10 * j + i, by omega, am_10, ?_⟩
    rintro _ rfl
    refine h _ _ ⟨fun c hc => ?_, hm.2⟩ (lo_up (by decide) (lo_up (by decide) lo_r))
    by_cases e : c = 115
    · subst e; rfl
    · simp only [am_vat, if_neg e]; exact mc c hc
  · rw [if_pos ⟨⟨c, c2⟩, c3⟩, if_neg c4, if_neg c5] at h; (exact h _ _ (RM_no hm) (lo_up (by decide) lo_r))
  · rw [if_neg (fun q => c2 q.1.2)] at h; (exact h _ _ (RM_no hm) (lo_up (by decide) lo_r))
  · rw [if_neg (fun q => c q.1.1)] at h; (exact h _ _ (RM_no hm) (lo_up (by decide) lo_r))
theorem ix_u {f : Nat → Int32} {n i k : Nat} {x : Int32} (h : ∀ j, j < n → f j = nI (f j).toNatClampNeg ∧ (f j).toNatClampNeg < i) (hx : 0 ≤ x ∧ x < nI i) (hi : i < 2 ^ 31) : ∀ j, j < n → upd f k x j = nI (upd f k x j).toNatClampNeg ∧ (upd f k x j).toNatClampNeg < i := by
  intro j hj
  rw [am_uat]
  obtain ⟨y, hy, rfl⟩ := am_nat hx hi
  split
  · rw [nI_clamp (by omega)]; exact ⟨rfl, hy⟩
  · exact h j hj
theorem I_way {a b x : Int32} (hv : Inv V) : Inv (o_way V a b x).2 := by
  unfold o_way
  split
  · split
    · exact hv
    · split
      · rename_i c c2
        obtain ⟨vn, vt, vr⟩ := hv
        have hx : 0 ≤ x ∧ x < nI 241 := by rw [show nI 241 = (241 : Int32) from rfl]; (simp (disch := omega) only [Int32.lt_iff_toInt_lt, Int32.le_iff_toInt_le, ← Int32.toInt_inj, Int32.reduceToInt, nI_toInt] at *; omega)
        exact ⟨vn, ⟨vt.1, ix_u (ix_u vt.2.1 hx (by decide)) hx (by decide), vt.2.2⟩, vr⟩
      · exact hv
  · exact hv
/-! wish, look -/
def o_wish (V : am_V) (k l x : Int32) : Int32 × am_V := if (0 ≤ k ∧ k < V 113 4) ∧ (0 ≤ l ∧ l < 5) then (if x < 0 then o_no V 4 (-4) else if x ≤ 99 then (V 121 (5 * k.toNatClampNeg + l.toNatClampNeg), va_up V 121 (upd (V 121) (5 * k.toNatClampNeg + l.toNatClampNeg) x)) else o_no V 6 (-6)) else o_no V 1 (-1)
theorem C_wish {k l x : Int32} (hd : 2 ≤ d) (hc : RC I V) (hv : Inv V) (h : ∀ I' L', RC I' (o_wish V k l x).2 → am_hi I' I → R (some (.int (o_wish V k l x).1)) (am_mk I' L', 0, 0)) : am_meth d 30 [.ref 0, .int k, .int l, .int x] (am_mk I L, 0, 0) R := by
  obtain ⟨d, rfl⟩ : ∃ e, d = e + 1 := ⟨d - 1, by omega⟩
  refine ar_in rfl rfl rfl (r_H_wish_0 (by omega) ?_)
  obtain ⟨⟨n1, n2, n3, n4, n5, n6, n7, n8⟩, ⟨e1, e2, e3, e4, e5, e6, e7, e8, e9, e10, e11, e12, e13, e14, e15, e16, e17⟩, -⟩ := id hc
  simp only [n1, n2, n3, n4, n5, n6, n7, n8, e1, e2, e3, e4, e5, e6, e7, e8, e9, e10, e11, e12, e13, e14, e15, e16, e17]
  unfold o_wish at h
  refine ⟨fun c => ⟨fun c2 => ⟨fun c4 => ?_, fun c4 => ?_, fun c4 => ?_⟩, fun c2 => ?_⟩, fun c => ?_⟩
  · rw [if_pos ⟨c, c2⟩, if_pos c4] at h; (exact h _ _ (RC_no hc) (hi_up (by decide) hi_r))
  · rw [if_pos ⟨c, c2⟩, if_neg c4.1, if_neg (Int32.not_le.mpr c4.2)] at h; (exact h _ _ (RC_no hc) (hi_up (by decide) hi_r))
  · rw [if_pos ⟨c, c2⟩, if_neg c4.1, if_pos (Int32.not_lt.mp c4.2)] at h
    rw [hv.1.2.1.1] at c
    have hk := hv.1.2.1.2
    obtain ⟨i, hi, rfl⟩ := am_nat c (by omega)
    obtain ⟨j, hj, rfl⟩ := am_nat (m := 5) c2 (by decide)
    rw [nI_clamp (by omega), nI_clamp (by omega)] at h
    refine ⟨i, by omega, rfl, j, hj, rfl, ?_⟩
    rintro _ rfl
    have hi2 : i < 20 := by omega
    have w := hc.2.2.1.2.1 i j hi2 hj
    rw [r20_e hi2] at w
    rw [w]
    refine h _ _ (RC_r20 (I := I) (fun c hc => ?_) (fun a b ha hb => ?_) hc) (fun c hc => ?_)
    · rw [am_vat, if_neg (by omega)]
    · have q := hc.2.2.1.2.1 a b ha hb
      rw [r20_e ha] at q ⊢
      simp only [am_vat, am_uat, Nat.add_left_cancel_iff]
      by_cases e1 : a = i
      · subst e1
        rw [if_pos rfl, am_uat]
        by_cases e2 : b = j
        · subst e2; rw [if_pos rfl, if_pos rfl]
        · rw [if_neg e2, if_neg (by omega)]; exact q
      · rw [if_neg e1, if_neg (by omega)]; exact q
    · rw [am_vat, if_neg (by omega)]
  · rw [if_neg (fun q => c2 q.2)] at h; (exact h _ _ (RC_no hc) (hi_up (by decide) hi_r))
  · rw [if_neg (fun q => c q.1)] at h; (exact h _ _ (RC_no hc) (hi_up (by decide) hi_r))
theorem am_5 {a b : Nat} : nI a * 5 + nI b = nI (5 * a + b) := by rw [show (5 : Int32) = nI 5 from rfl, pk_mul, nI_add, Nat.mul_comm]
theorem am_31 {a b : Nat} : nI a * 31 + nI b = nI (31 * a + b) := by rw [show (31 : Int32) = nI 31 from rfl, pk_mul, nI_add, Nat.mul_comm]
theorem M_wish {k l x : Int32} (hd : 2 ≤ d) (hm : RM I V) (hv : Inv V) (h : ∀ I' L', RM I' (o_wish V k l x).2 → am_lo I' I → R (some (.int (o_wish V k l x).1)) (am_mk I' L', 0, 0)) : am_meth d 213 [.ref 113, .int k, .int l, .int x] (am_mk I L, 0, 0) R := by
  obtain ⟨d, rfl⟩ : ∃ e, d = e + 1 := ⟨d - 1, by omega⟩
  refine ar_in rfl rfl rfl (r_M_wish_0 (by omega) ?_)
  have mc := hm.1; have mf := hm.2
  simp (disch := decide) only [mc, mf]
  unfold o_wish at h
  refine ⟨fun c => ⟨fun c2 => ?_, fun c2 => ⟨fun c3 => ⟨fun c4 => ?_, fun c4 => ⟨fun c5 => ?_, fun c5 => ?_⟩⟩, fun c3 => ?_⟩⟩, fun c => ?_⟩
  · rw [if_neg (fun q => by (simp (disch := omega) only [Int32.lt_iff_toInt_lt, Int32.le_iff_toInt_le, ← Int32.toInt_inj, Int32.reduceToInt, nI_toInt] at *; omega))] at h; (exact h _ _ (RM_no hm) (lo_up (by decide) lo_r))
  · rw [if_pos ⟨c, by (simp (disch := omega) only [Int32.lt_iff_toInt_lt, Int32.le_iff_toInt_le, ← Int32.toInt_inj, Int32.reduceToInt, nI_toInt] at *; omega)⟩, if_pos c4] at h; (exact h _ _ (RM_no hm) (lo_up (by decide) lo_r))
  · have c6 : 0 ≤ l ∧ l < 5 := by (simp (disch := omega) only [Int32.lt_iff_toInt_lt, Int32.le_iff_toInt_le, ← Int32.toInt_inj, Int32.reduceToInt, nI_toInt] at *; omega)
    rw [if_pos ⟨c, c6⟩, if_neg c4, if_pos c5] at h
    rw [hv.1.2.1.1] at c
    have hk := hv.1.2.1.2
    obtain ⟨i, hi, rfl⟩ := am_nat c (by omega)
    obtain ⟨j, hj, rfl⟩ := am_nat (m := 5) c6 (by decide)
    rw [nI_clamp (by omega), nI_clamp (by omega)] at h
    refine ⟨5 * i + j, by omega, am_5, ?_⟩
    rintro _ rfl
    exact h _ _ (RM_up (by decide) rfl hm) (lo_up (by decide) lo_r)
  · rw [if_pos ⟨c, by (simp (disch := omega) only [Int32.lt_iff_toInt_lt, Int32.le_iff_toInt_le, ← Int32.toInt_inj, Int32.reduceToInt, nI_toInt] at *; omega)⟩, if_neg c4, if_neg c5] at h; (exact h _ _ (RM_no hm) (lo_up (by decide) lo_r))
  · rw [if_neg (fun q => by (simp (disch := omega) only [Int32.lt_iff_toInt_lt, Int32.le_iff_toInt_le, ← Int32.toInt_inj, Int32.reduceToInt, nI_toInt] at *; omega))] at h; (exact h _ _ (RM_no hm) (lo_up (by decide) lo_r))
  · rw [if_neg (fun q => c q.1)] at h; (exact h _ _ (RM_no hm) (lo_up (by decide) lo_r))
theorem I_wish {k l x : Int32} (hv : Inv V) : Inv (o_wish V k l x).2 := by
  unfold o_wish
  split
  · split
    · exact hv
    · split <;> exact hv
  · exact hv
def o_look (V : am_V) (a b x : Int32) : Int32 × am_V := if 0 ≤ a ∧ a < V 113 10 then (if b < 0 ∨ x < 0 then o_no V 4 (-4) else if b < 31 ∧ x ≤ 9 then (V 124 (31 * a.toNatClampNeg + b.toNatClampNeg), va_up V 124 (upd (V 124) (31 * a.toNatClampNeg + b.toNatClampNeg) x)) else o_no V 6 (-6)) else o_no V 1 (-1)
theorem C_look {a b x : Int32} (hd : 2 ≤ d) (hc : RC I V) (hv : Inv V) (h : ∀ I' L', RC I' (o_look V a b x).2 → am_hi I' I → R (some (.int (o_look V a b x).1)) (am_mk I' L', 0, 0)) : am_meth d 39 [.ref 0, .int a, .int b, .int x] (am_mk I L, 0, 0) R := by
  obtain ⟨d, rfl⟩ : ∃ e, d = e + 1 := ⟨d - 1, by omega⟩
  refine ar_in rfl rfl rfl (r_H_look_0 (by omega) ?_)
  obtain ⟨⟨n1, n2, n3, n4, n5, n6, n7, n8⟩, ⟨e1, e2, e3, e4, e5, e6, e7, e8, e9, e10, e11, e12, e13, e14, e15, e16, e17⟩, -⟩ := id hc
  simp only [n1, n2, n3, n4, n5, n6, n7, n8, e1, e2, e3, e4, e5, e6, e7, e8, e9, e10, e11, e12, e13, e14, e15, e16, e17]
  unfold o_look at h
  refine ⟨fun c => ⟨fun c2 => ?_, fun c2 => ⟨fun c3 => ?_, fun c3 => ⟨fun c4 => ⟨fun c5 => ?_, fun c5 => ?_⟩, fun c4 => ?_⟩⟩⟩, fun c => ?_⟩
  · rw [if_pos c, if_pos (Or.inl c2)] at h; (exact h _ _ (RC_no hc) (hi_up (by decide) hi_r))
  · rw [if_pos c, if_pos (Or.inr c3)] at h; (exact h _ _ (RC_no hc) (hi_up (by decide) hi_r))
  · rw [if_pos c, if_neg (fun q => q.elim c2 c3), if_pos ⟨c4, c5⟩] at h
    rw [hv.1.2.2.1.1] at c
    have hk := hv.1.2.2.1.2
    obtain ⟨i, hi, rfl⟩ := am_nat c (by omega)
    obtain ⟨j, hj, rfl⟩ := am_nat (m := 31) ⟨Int32.not_lt.mp c2, c4⟩ (by decide)
    rw [nI_clamp (by omega), nI_clamp (by omega)] at h
    refine ⟨i, by omega, rfl, j, hj, rfl, ?_⟩
    rintro _ rfl
    have hi2 : i < 20 := by omega
    have w := hc.2.2.1.2.2.1 i j hi2 hj
    rw [q20_e hi2] at w
    rw [w]
    refine h _ _ (RC_q20 (I := I) (fun c hc => ?_) (fun a b ha hb => ?_) hc) (fun c hc => ?_)
    · rw [am_vat, if_neg (by omega)]
    · have q := hc.2.2.1.2.2.1 a b ha hb
      rw [q20_e ha] at q ⊢
      simp only [am_vat, am_uat, Nat.add_left_cancel_iff]
      by_cases e1 : a = i
      · subst e1
        rw [if_pos rfl, am_uat]
        by_cases e2 : b = j
        · subst e2; rw [if_pos rfl, if_pos rfl]
        · rw [if_neg e2, if_neg (by omega)]; exact q
      · rw [if_neg e1, if_neg (by omega)]; exact q
    · rw [am_vat, if_neg (by omega)]
  · rw [if_pos c, if_neg (fun q => q.elim c2 c3), if_neg (fun q => c5 q.2)] at h; (exact h _ _ (RC_no hc) (hi_up (by decide) hi_r))
  · rw [if_pos c, if_neg (fun q => q.elim c2 c3), if_neg (fun q => c4 q.1)] at h; (exact h _ _ (RC_no hc) (hi_up (by decide) hi_r))
  · (rw [if_neg c] at h; exact h _ _ (RC_no hc) (hi_up (by decide) hi_r))
theorem M_look {a b x : Int32} (hd : 2 ≤ d) (hm : RM I V) (hv : Inv V) (h : ∀ I' L', RM I' (o_look V a b x).2 → am_lo I' I → R (some (.int (o_look V a b x).1)) (am_mk I' L', 0, 0)) : am_meth d 235 [.ref 113, .int a, .int b, .int x] (am_mk I L, 0, 0) R := by
  obtain ⟨d, rfl⟩ : ∃ e, d = e + 1 := ⟨d - 1, by omega⟩
  refine ar_in rfl rfl rfl (r_M_look_0 (by omega) ?_)
  have mc := hm.1; have mf := hm.2
  simp (disch := decide) only [mc, mf]
  unfold o_look at h
  refine ⟨fun c => ⟨fun c2 => ?_, fun c2 => ⟨fun c3 => ?_, fun c3 => ⟨fun c4 => ⟨fun c5 => ?_, fun c5 => ?_⟩, fun c4 => ?_⟩⟩⟩, fun c => ?_⟩
  · rw [if_pos c, if_pos (Or.inl c2)] at h; (exact h _ _ (RM_no hm) (lo_up (by decide) lo_r))
  · rw [if_pos c, if_pos (Or.inr c3)] at h; (exact h _ _ (RM_no hm) (lo_up (by decide) lo_r))
  · have c6 : b < 31 := by (simp (disch := omega) only [Int32.lt_iff_toInt_lt, Int32.le_iff_toInt_le, ← Int32.toInt_inj, Int32.reduceToInt, nI_toInt] at *; omega)
    rw [if_pos c, if_neg (fun q => q.elim c2 c3), if_pos ⟨c6, c5⟩] at h
    rw [hv.1.2.2.1.1] at c
    have hk := hv.1.2.2.1.2
    obtain ⟨i, hi, rfl⟩ := am_nat c (by omega)
    obtain ⟨j, hj, rfl⟩ := am_nat (m := 31) ⟨Int32.not_lt.mp c2, c6⟩ (by decide)
    rw [nI_clamp (by omega), nI_clamp (by omega)] at h
    refine ⟨31 * i + j, by omega, am_31, ?_⟩
    rintro _ rfl
    exact h _ _ (RM_up (by decide) rfl hm) (lo_up (by decide) lo_r)
  · rw [if_pos c, if_neg (fun q => q.elim c2 c3), if_neg (fun q => c5 q.2)] at h; (exact h _ _ (RM_no hm) (lo_up (by decide) lo_r))
  · rw [if_pos c, if_neg (fun q => q.elim c2 c3), if_neg (fun q => c4 (by have := q.1; (simp (disch := omega) only [Int32.lt_iff_toInt_lt, Int32.le_iff_toInt_le, ← Int32.toInt_inj, Int32.reduceToInt, nI_toInt] at *; omega)))] at h; (exact h _ _ (RM_no hm) (lo_up (by decide) lo_r))
  · (rw [if_neg c] at h; exact h _ _ (RM_no hm) (lo_up (by decide) lo_r))
theorem I_look {k l x : Int32} (hv : Inv V) : Inv (o_look V k l x).2 := by
  unfold o_look
  split
  · split
    · exact hv
    · split <;> exact hv
  · exact hv
end OP2
