/-! the simple calls: what each answers and leaves, of V; both keep to it -/
theorem am_nat {x : Int32} {m : Nat} (h : 0 ≤ x ∧ x < nI m) (hm : m < 2 ^ 31) : ∃ j, j < m ∧ x = nI j := by
  obtain ⟨j, hj, rfl⟩ := nI_of (x := x) (Int32.not_lt.mpr h.1)
  exact ⟨j, (nI_ltI hj hm).mp h.2, rfl⟩
theorem r10_e {I : am_V} {a : Nat} (h : a < 10) : am_r10 I a = I (6 + a) := match a, h with
  | 0, _ => rfl | 1, _ => rfl | 2, _ => rfl | 3, _ => rfl | 4, _ => rfl | 5, _ => rfl | 6, _ => rfl | 7, _ => rfl | 8, _ => rfl | 9, _ => rfl
  | n + 10, h => absurd h (by omega)
theorem r20_e {I : am_V} {a : Nat} (h : a < 20) : am_r20 I a = I (22 + a) := match a, h with
  | 0, _ => rfl | 1, _ => rfl | 2, _ => rfl | 3, _ => rfl | 4, _ => rfl | 5, _ => rfl | 6, _ => rfl | 7, _ => rfl | 8, _ => rfl | 9, _ => rfl
  | 10, _ => rfl | 11, _ => rfl | 12, _ => rfl | 13, _ => rfl | 14, _ => rfl | 15, _ => rfl | 16, _ => rfl | 17, _ => rfl | 18, _ => rfl | 19, _ => rfl
  | n + 20, h => absurd h (by omega)
theorem q20_e {I : am_V} {a : Nat} (h : a < 20) : am_q20 I a = I (46 + a) := match a, h with
  | 0, _ => rfl | 1, _ => rfl | 2, _ => rfl | 3, _ => rfl | 4, _ => rfl | 5, _ => rfl | 6, _ => rfl | 7, _ => rfl | 8, _ => rfl | 9, _ => rfl
  | 10, _ => rfl | 11, _ => rfl | 12, _ => rfl | 13, _ => rfl | 14, _ => rfl | 15, _ => rfl | 16, _ => rfl | 17, _ => rfl | 18, _ => rfl | 19, _ => rfl
  | n + 20, h => absurd h (by omega)
section OP1
variable {d : Nat} {I V : am_V} {L : Nat → Nat → Int64} {R : am_R}
def o_days (V : am_V) (n : Int32) : Int32 × am_V := if n < 1 then o_no V 4 (-4) else if n ≤ 1500 - V 113 0 then (V 113 0 + n, va_up V 113 (upd (V 113) 0 (V 113 0 + n))) else o_no V 6 (-6)
theorem C_days {n : Int32} (hd : 2 ≤ d) (hc : RC I V) (hv : Inv V) (h : ∀ I' L', RC I' (o_days V n).2 → am_hi I' I → R (some (.int (o_days V n).1)) (am_mk I' L', 0, 0)) : am_meth d 1 [.ref 0, .int n] (am_mk I L, 0, 0) R := by
  obtain ⟨d, rfl⟩ : ∃ e, d = e + 1 := ⟨d - 1, by omega⟩
  refine ar_in rfl rfl rfl (r_H_days_0 (by omega) ?_)
  obtain ⟨⟨n1, n2, n3, n4, n5, n6, n7, n8⟩, ⟨e1, e2, e3, e4, e5, e6, e7, e8, e9, e10, e11, e12, e13, e14, e15, e16, e17⟩, -⟩ := id hc
  simp only [n1, n2, n3, n4, n5, n6, n7, n8, e1, e2, e3, e4, e5, e6, e7, e8, e9, e10, e11, e12, e13, e14, e15, e16, e17]
  unfold o_days at h
  refine ⟨fun c => ?_, fun c => ⟨fun c2 => ?_, fun c2 => ?_⟩⟩
  · (rw [if_pos c] at h; exact h _ _ (RC_no hc) (hi_up (by decide) hi_r))
  · rw [if_neg c, if_pos c2] at h
    rintro _ rfl
    exact h _ _ ⟨⟨n1, n2, rfl, n4, n5, n6, n7, n8⟩, hc.2⟩ (hi_up (by decide) hi_r)
  · (rw [if_neg c, if_neg c2] at h; exact h _ _ (RC_no hc) (hi_up (by decide) hi_r))
theorem M_days {n : Int32} (hd : 2 ≤ d) (hm : RM I V) (hv : Inv V) (h : ∀ I' L', RM I' (o_days V n).2 → am_lo I' I → R (some (.int (o_days V n).1)) (am_mk I' L', 0, 0)) : am_meth d 150 [.ref 113, .int n] (am_mk I L, 0, 0) R := by
  obtain ⟨d, rfl⟩ : ∃ e, d = e + 1 := ⟨d - 1, by omega⟩
  refine ar_in rfl rfl rfl (r_M_days_0 (by omega) ?_)
  have mc := hm.1; have mf := hm.2
  simp (disch := decide) only [mc, mf]
  unfold o_days at h
  refine ⟨fun c => ?_, fun c => ⟨fun c2 => ?_, fun c2 => ?_⟩⟩
  · (rw [if_pos c] at h; exact h _ _ (RM_no hm) (lo_up (by decide) lo_r))
  · rw [if_neg c, if_pos c2] at h
    rintro _ rfl
    exact h _ _ (RM_f rfl hm) (lo_up (by decide) lo_r)
  · (rw [if_neg c, if_neg c2] at h; exact h _ _ (RM_no hm) (lo_up (by decide) lo_r))
theorem am_ixn {V : am_V} {c j n x : Nat} (h : V c j = nI x) (hx : x < n) (hn : n < 2 ^ 31) : am_ix V c j n := by
  have : am_n V c j = x := by unfold am_n; rw [h]; exact nI_clamp (by omega)
  unfold am_ix; rw [this]; exact ⟨h, hx⟩
theorem am_add {a b : Nat} {x : Int32} (hx : x = nI b) : nI a + x = nI (a + b) := by rw [hx, nI_add]
theorem I_days {n : Int32} (hv : Inv V) : Inv (o_days V n).2 := by
  unfold o_days
  split
  · exact hv
  · rename_i c1
    split
    · rename_i c2
      obtain ⟨⟨⟨v0, v1⟩, vn⟩, vt, vk, vs, vx, vr, vp⟩ := hv
      obtain ⟨j, hj, rfl⟩ := nI_of (x := n) (fun q => c1 (by (simp (disch := omega) only [Int32.lt_iff_toInt_lt, Int32.le_iff_toInt_le, ← Int32.toInt_inj, Int32.reduceToInt, nI_toInt] at *; omega)))
      have e0 : (1500 : Int32) - nI (am_n V 113 0) = nI (1500 - am_n V 113 0) := by
        rw [show (1500 : Int32) = nI (1500 - am_n V 113 0 + am_n V 113 0) from by rw [show 1500 - am_n V 113 0 + am_n V 113 0 = 1500 from by omega]; rfl, ← nI_add, Int32.add_sub_cancel]
      rw [v0, e0, nI_leI hj (by omega)] at c2
      have e1 : V 113 0 + nI j = nI (am_n V 113 0 + j) := by rw [← nI_add, ← v0]
      have e2 : am_n (va_up V 113 (upd (V 113) 0 (V 113 0 + nI j))) 113 0 = am_n V 113 0 + j := by
        show (V 113 0 + nI j).toNatClampNeg = _
        rw [e1]; exact nI_clamp (by omega)
      refine ⟨⟨⟨?_, ?_⟩, vn⟩, vt, vk, vs, vx, ⟨fun r hr => ⟨(vr.1 r hr).1, fun q => ⟨((vr.1 r hr).2 q).1, ((vr.1 r hr).2 q).2.1, ?_⟩⟩, vr.2⟩, vp⟩
      · rw [e2]; exact e1
      · rw [e2]; omega
      · rw [e2]; exact Nat.lt_of_lt_of_le ((vr.1 r hr).2 q).2.2 (by omega)
    · exact hv
def o_town (V : am_V) (t l : Int32) : Int32 × am_V := if (0 ≤ t ∧ t < 10) ∧ (0 ≤ l ∧ l < 5) then (V 114 t.toNatClampNeg, va_up V 114 (upd (V 114) t.toNatClampNeg l)) else o_no V 1 (-1)
theorem C_town {t l : Int32} (hd : 2 ≤ d) (hc : RC I V) (hv : Inv V) (h : ∀ I' L', RC I' (o_town V t l).2 → am_hi I' I → R (some (.int (o_town V t l).1)) (am_mk I' L', 0, 0)) : am_meth d 3 [.ref 0, .int t, .int l] (am_mk I L, 0, 0) R := by
  obtain ⟨d, rfl⟩ : ∃ e, d = e + 1 := ⟨d - 1, by omega⟩
  refine ar_in rfl rfl rfl (r_H_town_0 (by omega) ?_)
  obtain ⟨⟨n1, n2, n3, n4, n5, n6, n7, n8⟩, ⟨e1, e2, e3, e4, e5, e6, e7, e8, e9, e10, e11, e12, e13, e14, e15, e16, e17⟩, -⟩ := id hc
  simp only [n1, n2, n3, n4, n5, n6, n7, n8, e1, e2, e3, e4, e5, e6, e7, e8, e9, e10, e11, e12, e13, e14, e15, e16, e17]
  unfold o_town at h
  refine ⟨fun c => ⟨fun c2 => ?_, fun c2 => ?_⟩, fun c => ?_⟩
  · rw [if_pos ⟨c, c2⟩] at h
    obtain ⟨j, hj, rfl⟩ := am_nat (m := 10) c (by decide)
    rw [nI_clamp (by omega)] at h
    refine ⟨j, hj, rfl, ?_⟩
    rintro _ rfl
    exact h _ _ ⟨hc.1, ⟨e1, rfl, e3, hc.2.1.2.2.2⟩, hc.2.2⟩ (hi_up (by decide) hi_r)
  · rw [if_neg (fun q => c2 q.2)] at h; (exact h _ _ (RC_no hc) (hi_up (by decide) hi_r))
  · rw [if_neg (fun q => c q.1)] at h; (exact h _ _ (RC_no hc) (hi_up (by decide) hi_r))
theorem M_town {t l : Int32} (hd : 2 ≤ d) (hm : RM I V) (hv : Inv V) (h : ∀ I' L', RM I' (o_town V t l).2 → am_lo I' I → R (some (.int (o_town V t l).1)) (am_mk I' L', 0, 0)) : am_meth d 152 [.ref 113, .int t, .int l] (am_mk I L, 0, 0) R := by
  obtain ⟨d, rfl⟩ : ∃ e, d = e + 1 := ⟨d - 1, by omega⟩
  refine ar_in rfl rfl rfl (r_M_town_0 (by omega) ?_)
  have mc := hm.1; have mf := hm.2
  simp (disch := decide) only [mc, mf]
  unfold o_town at h
  refine ⟨fun c => ⟨fun c2 => ?_, fun c2 => ⟨fun c3 => ?_, fun c3 => ?_⟩⟩, fun c => ?_⟩
  · rw [if_neg (fun q => by (simp (disch := omega) only [Int32.lt_iff_toInt_lt, Int32.le_iff_toInt_le, ← Int32.toInt_inj, Int32.reduceToInt, nI_toInt] at *; omega))] at h; (exact h _ _ (RM_no hm) (lo_up (by decide) lo_r))
  · rw [if_pos ⟨c, by (simp (disch := omega) only [Int32.lt_iff_toInt_lt, Int32.le_iff_toInt_le, ← Int32.toInt_inj, Int32.reduceToInt, nI_toInt] at *; omega)⟩] at h
    obtain ⟨j, hj, rfl⟩ := am_nat (m := 10) c (by decide)
    rw [nI_clamp (by omega)] at h
    refine ⟨j, hj, rfl, ?_⟩
    rintro _ rfl
    exact h _ _ (RM_up (by decide) rfl hm) (lo_up (by decide) lo_r)
  · rw [if_neg (fun q => by (simp (disch := omega) only [Int32.lt_iff_toInt_lt, Int32.le_iff_toInt_le, ← Int32.toInt_inj, Int32.reduceToInt, nI_toInt] at *; omega))] at h; (exact h _ _ (RM_no hm) (lo_up (by decide) lo_r))
  · rw [if_neg (fun q => c q.1)] at h; (exact h _ _ (RM_no hm) (lo_up (by decide) lo_r))
theorem ix_up {V : am_V} {c i n : Nat} {x : Int32} (h : ∀ j, j < n → am_ix V c j i) (hx : 0 ≤ x ∧ x < nI i) (hi : i < 2 ^ 31) (k : Nat) : ∀ j, j < n → am_ix (va_up V c (upd (V c) k x)) c j i := by
  intro j hj
  obtain ⟨y, hy, rfl⟩ := am_nat hx hi
  by_cases e : j = k
  · refine am_ixn (x := y) ?_ hy hi
    rw [am_vat, if_pos rfl, am_uat, if_pos e]
  · have e2 : va_up V c (upd (V c) k (nI y)) c j = V c j := by rw [am_vat, if_pos rfl, am_uat, if_neg e]
    unfold am_ix am_n
    rw [e2]; exact h j hj
theorem I_town {t l : Int32} (hv : Inv V) : Inv (o_town V t l).2 := by
  unfold o_town
  split
  · rename_i c
    obtain ⟨vn, vt, vr⟩ := hv
    exact ⟨vn, ⟨ix_up vt.1 c.2 (by decide) _, vt.2⟩, vr⟩
  · exact hv
def o_limit (V : am_V) (l x : Int32) : Int32 × am_V := if (0 ≤ l ∧ l < 5) then (if x < 0 then o_no V 4 (-4) else if x ≤ 180 then (V 116 l.toNatClampNeg, va_up V 116 (upd (V 116) l.toNatClampNeg x)) else o_no V 6 (-6)) else o_no V 1 (-1)
theorem C_limit {l x : Int32} (hd : 2 ≤ d) (hc : RC I V) (hv : Inv V) (h : ∀ I' L', RC I' (o_limit V l x).2 → am_hi I' I → R (some (.int (o_limit V l x).1)) (am_mk I' L', 0, 0)) : am_meth d 6 [.ref 0, .int l, .int x] (am_mk I L, 0, 0) R := by
  obtain ⟨d, rfl⟩ : ∃ e, d = e + 1 := ⟨d - 1, by omega⟩
  refine ar_in rfl rfl rfl (r_H_limit_0 (by omega) ?_)
  obtain ⟨⟨n1, n2, n3, n4, n5, n6, n7, n8⟩, ⟨e1, e2, e3, e4, e5, e6, e7, e8, e9, e10, e11, e12, e13, e14, e15, e16, e17⟩, -⟩ := id hc
  simp only [n1, n2, n3, n4, n5, n6, n7, n8, e1, e2, e3, e4, e5, e6, e7, e8, e9, e10, e11, e12, e13, e14, e15, e16, e17]
  unfold o_limit at h
  refine ⟨fun c => ⟨fun c2 => ?_, fun c2 => ?_, fun c2 => ?_⟩, fun c => ?_⟩
  · (rw [if_pos c, if_pos c2] at h; exact h _ _ (RC_no hc) (hi_up (by decide) hi_r))
  · rw [if_pos c, if_neg c2.1, if_neg (Int32.not_le.mpr c2.2)] at h; (exact h _ _ (RC_no hc) (hi_up (by decide) hi_r))
  · rw [if_pos c, if_neg c2.1, if_pos (Int32.not_lt.mp c2.2)] at h
    obtain ⟨j, hj, rfl⟩ := am_nat (m := 5) c (by decide)
    rw [nI_clamp (by omega)] at h
    refine ⟨j, hj, rfl, ?_⟩
    rintro _ rfl
    exact h _ _ ⟨hc.1, ⟨e1, e2, rfl, hc.2.1.2.2.2⟩, hc.2.2⟩ (hi_up (by decide) hi_r)
  · (rw [if_neg c] at h; exact h _ _ (RC_no hc) (hi_up (by decide) hi_r))
theorem M_limit {l x : Int32} (hd : 2 ≤ d) (hm : RM I V) (hv : Inv V) (h : ∀ I' L', RM I' (o_limit V l x).2 → am_lo I' I → R (some (.int (o_limit V l x).1)) (am_mk I' L', 0, 0)) : am_meth d 155 [.ref 113, .int l, .int x] (am_mk I L, 0, 0) R := by
  obtain ⟨d, rfl⟩ : ∃ e, d = e + 1 := ⟨d - 1, by omega⟩
  refine ar_in rfl rfl rfl (r_M_limit_0 (by omega) ?_)
  have mc := hm.1; have mf := hm.2
  simp (disch := decide) only [mc, mf]
  unfold o_limit at h
  refine ⟨fun c2 => ?_, fun c2 => ⟨fun c3 => ?_, fun c3 => ?_⟩⟩
  · rw [if_neg (fun q => by (simp (disch := omega) only [Int32.lt_iff_toInt_lt, Int32.le_iff_toInt_le, ← Int32.toInt_inj, Int32.reduceToInt, nI_toInt] at *; omega))] at h; (exact h _ _ (RM_no hm) (lo_up (by decide) lo_r))
  · have c : 0 ≤ l ∧ l < 5 := by (simp (disch := omega) only [Int32.lt_iff_toInt_lt, Int32.le_iff_toInt_le, ← Int32.toInt_inj, Int32.reduceToInt, nI_toInt] at *; omega)
    refine ⟨fun d1 => ?_, fun d1 => ⟨fun d2 => ?_, fun d2 => ?_⟩⟩
    · (rw [if_pos c, if_pos d1] at h; exact h _ _ (RM_no hm) (lo_up (by decide) lo_r))
    · rw [if_pos c, if_neg d1, if_pos d2] at h
      obtain ⟨j, hj, rfl⟩ := am_nat (m := 5) c (by decide)
      rw [nI_clamp (by omega)] at h
      refine ⟨j, hj, rfl, ?_⟩
      rintro _ rfl
      exact h _ _ (RM_up (by decide) rfl hm) (lo_up (by decide) lo_r)
    · (rw [if_pos c, if_neg d1, if_neg d2] at h; exact h _ _ (RM_no hm) (lo_up (by decide) lo_r))
  · rw [if_neg (fun q => by (simp (disch := omega) only [Int32.lt_iff_toInt_lt, Int32.le_iff_toInt_le, ← Int32.toInt_inj, Int32.reduceToInt, nI_toInt] at *; omega))] at h; (exact h _ _ (RM_no hm) (lo_up (by decide) lo_r))
theorem I_limit {l x : Int32} (hv : Inv V) : Inv (o_limit V l x).2 := by
  unfold o_limit
  split
  · split
    · exact hv
    · split
      · rename_i c c2
        obtain ⟨vn, vt, vr⟩ := hv
        refine ⟨vn, ⟨vt.1, vt.2.1, ix_up vt.2.2 ⟨Int32.not_lt.mp c, ?_⟩ (by decide) _⟩, vr⟩
        rw [show nI 181 = (181 : Int32) from rfl]; (simp (disch := omega) only [Int32.lt_iff_toInt_lt, Int32.le_iff_toInt_le, ← Int32.toInt_inj, Int32.reduceToInt, nI_toInt] at *; omega)
      · exact hv
  · exact hv
end OP1
