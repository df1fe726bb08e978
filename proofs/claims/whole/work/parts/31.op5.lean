/-! list, stay, claim, where, stars -/
theorem am_up {P : Nat → Prop} {n : Nat} (he : P n) (hs : ∀ s, s < n → P (s + 1) → P s) : P 0 := by
  have : ∀ m, m ≤ n → P (n - m) := by
    intro m
    induction m with
    | zero => exact fun _ => he
    | succ m ih =>
      intro hm
      have h1 := ih (by omega)
      rw [show n - m = n - (m + 1) + 1 from by omega] at h1
      exact hs _ (by omega) h1
  have h2 := this n (by omega)
  rw [Nat.sub_self] at h2
  exact h2
theorem s_n_congr {P Q : Nat → Bool} {n : Nat} (h : ∀ s, s < n → P s = Q s) : s_n P n = s_n Q n := by
  induction n with
  | zero => rfl
  | succ n ih =>
    unfold s_n
    rw [h n (by omega), ih (fun s hs => h s (by omega))]
theorem s_s_congr {P Q : Nat → Bool} {x y : Nat → Int32} {n : Nat} (h : ∀ s, s < n → P s = Q s) (hx : ∀ s, s < n → P s = true → x s = y s) : s_s P x n = s_s Q y n := by
  induction n with
  | zero => rfl
  | succ n ih =>
    unfold s_s
    rw [h n (by omega), ih (fun s hs => h s (by omega)) (fun s hs => hx s (by omega))]
    split
    · rename_i c; rw [hx n (by omega) (by rw [h n (by omega)]; exact c)]
    · rfl
section OP5
variable {d : Nat} {I V : am_V} {L : Nat → Nat → Int64} {R : am_R}
theorem ok_St_howMany {x : Int32} {n : Nat} (hd : 1 ≤ d) (hn : I 66 1 = nI n) (h60 : n ≤ 60) (h : R (some (.int (s_n (fun s => decide (I 70 s = x)) n))) (am_mk I L, 0, 0)) : am_meth d 124 [.ref 66, .int x] (am_mk I L, 0, 0) R := by
  obtain ⟨d, rfl⟩ : ∃ e, d = e + 1 := ⟨d - 1, by omega⟩
  refine ar_in rfl rfl rfl (r_Stays_howMany_0 ?_)
  refine am_up (P := fun s => am_Run am_X0 (am_meth d) 124 R 4 [some (.ref 66), some (.int x), some (.int (s_n (fun s => decide (I 70 s = x)) s)), some (.int (nI s))] [] (am_mk I L, 0, 0)) (n := n) ?_ (fun s hs ih => ?_)
  · exact r_Stays_howMany_4 ⟨fun c => absurd (hn ▸ c) (nI_nlt (Nat.le_refl _) (by omega)), fun _ => h⟩
  · refine r_Stays_howMany_4 ⟨fun _ => ⟨by omega, fun c => ?_, fun c => ?_⟩, fun c => absurd (by rw [hn]; exact nI_lt hs (by omega)) c⟩
    · simp only [s_n, c, decide_true, if_true] at ih; exact ih
    · simp only [s_n, c, decide_false, Bool.false_eq_true, if_false] at ih; exact ih
theorem ok_M_inState {x : Int32} {n : Nat} (hd : 1 ≤ d) (hn : I 113 14 = nI n) (h60 : n ≤ 60) (h : R (some (.int (s_n (fun s => decide (I 128 s = x)) n))) (am_mk I L, 0, 0)) : am_meth d 240 [.ref 113, .int x] (am_mk I L, 0, 0) R := by
  obtain ⟨d, rfl⟩ : ∃ e, d = e + 1 := ⟨d - 1, by omega⟩
  refine ar_in rfl rfl rfl (r_M_inState_0 ?_)
  refine am_up (P := fun s => am_Run am_X0 (am_meth d) 240 R 4 [some (.ref 113), some (.int x), some (.int (s_n (fun s => decide (I 128 s = x)) s)), some (.int (nI s))] [] (am_mk I L, 0, 0)) (n := n) ?_ (fun s hs ih => ?_)
  · exact r_M_inState_4 ⟨fun c => absurd (hn ▸ c) (nI_nlt (Nat.le_refl _) (by omega)), fun _ => h⟩
  · refine r_M_inState_4 ⟨fun _ => ⟨by omega, fun c => ?_, fun c => ?_⟩, fun c => absurd (by rw [hn]; exact nI_lt hs (by omega)) c⟩
    · simp only [s_n, c, decide_true, if_true] at ih; exact ih
    · simp only [s_n, c, decide_false, Bool.false_eq_true, if_false] at ih; exact ih
def o_list (V : am_V) (s a x : Int32) : Int32 × am_V := if 0 ≤ s ∧ s < V 113 14 then (if a = 0 then (if V 128 s.toNatClampNeg = 1 ∧ V 113 0 ≤ V 126 s.toNatClampNeg then (if x < 0 then o_no V 4 (-4) else (if V 132 (2 * s.toNatClampNeg) < 0 then 1 else 0, va_up V 132 (upd (V 132) (2 * s.toNatClampNeg) x))) else o_no V 3 (-3)) else (if V 128 s.toNatClampNeg = 1 ∧ V 127 s.toNatClampNeg < V 113 0 then (if x < 0 then o_no V 4 (-4) else (if V 132 (2 * s.toNatClampNeg + 1) < 0 then 1 else 0, va_up V 132 (upd (V 132) (2 * s.toNatClampNeg + 1) x))) else o_no V 3 (-3))) else o_no V 1 (-1)
theorem RC_li0 {i : Nat} {x : Int32} (hc : RC I V) : RC (va_up I 72 (upd (I 72) i x)) (va_up V 132 (upd (V 132) (2 * i) x)) := by
  obtain ⟨h1, h2, ⟨h3, h4, h5, h6, h7⟩, h8⟩ := hc
  refine ⟨h1, h2, ⟨h3, h4, h5, h6, fun s hs => ⟨?_, ?_⟩⟩, h8⟩
  · show upd (I 72) i x s = upd (V 132) (2 * i) x (2 * s)
    rw [am_uat, am_uat]
    by_cases e : s = i
    · subst e; rw [if_pos rfl, if_pos rfl]
    · rw [if_neg e, if_neg (by omega)]; exact (h7 s hs).1
  · show I 73 s = upd (V 132) (2 * i) x (2 * s + 1)
    rw [am_uat, if_neg (by omega)]; exact (h7 s hs).2
theorem RC_li1 {i : Nat} {x : Int32} (hc : RC I V) : RC (va_up I 73 (upd (I 73) i x)) (va_up V 132 (upd (V 132) (2 * i + 1) x)) := by
  obtain ⟨h1, h2, ⟨h3, h4, h5, h6, h7⟩, h8⟩ := hc
  refine ⟨h1, h2, ⟨h3, h4, h5, h6, fun s hs => ⟨?_, ?_⟩⟩, h8⟩
  · show I 72 s = upd (V 132) (2 * i + 1) x (2 * s)
    rw [am_uat, if_neg (by omega)]; exact (h7 s hs).1
  · show upd (I 73) i x s = upd (V 132) (2 * i + 1) x (2 * s + 1)
    rw [am_uat, am_uat]
    by_cases e : s = i
    · subst e; rw [if_pos rfl, if_pos rfl]
    · rw [if_neg e, if_neg (by omega)]; exact (h7 s hs).2
theorem C_list {s a x : Int32} (hd : 2 ≤ d) (hc : RC I V) (hv : Inv V) (h : ∀ I' L', RC I' (o_list V s a x).2 → am_hi I' I → R (some (.int (o_list V s a x).1)) (am_mk I' L', 0, 0)) : am_meth d 38 [.ref 0, .int s, .int a, .int x] (am_mk I L, 0, 0) R := by
  obtain ⟨d, rfl⟩ : ∃ e, d = e + 1 := ⟨d - 1, by omega⟩
  refine ar_in rfl rfl rfl (r_H_list_0 (by omega) ?_)
  obtain ⟨⟨n1, n2, n3, n4, n5, n6, n7, n8⟩, ⟨e1, e2, e3, e4, e5, e6, e7, e8, e9, e10, e11, e12, e13, e14, e15, e16, e17⟩, -⟩ := id hc
  simp only [n1, n2, n3, n4, n5, n6, n7, n8, e1, e2, e3, e4, e5, e6, e7, e8, e9, e10, e11, e12, e13, e14, e15, e16, e17]
  unfold o_list at h
  refine ⟨fun c => ?_, fun c => ?_⟩
  · rw [if_pos c] at h
    have hk := hv.1.2.2.2.1
    have hk2 := hk.2
    rw [hk.1] at c
    obtain ⟨i, hi, rfl⟩ := am_nat c (by omega)
    rw [nI_clamp (by omega)] at h
    have hi2 : i < 60 := by omega
    have t1 := it_lt hv (r := 2 * i) (by omega)
    have t2 := it_lt hv (r := 2 * i + 1) (by omega)
    have l7 := hc.2.2.1.2.2.2.2 i hi2
    refine ⟨fun a0 => ⟨i, hi2, rfl, fun c1 => ⟨fun c2 => ⟨fun c3 => ?_, fun c3 => ⟨fun c4 => ?_, fun c4 => ?_⟩⟩, fun c2 => ?_⟩, fun c1 => ⟨fun c2 => ?_, fun c2 => ?_⟩⟩, fun a0 => ⟨i, rfl, hi2, fun c1 => ⟨i, hi2, rfl, fun c2 => ⟨fun c3 => ?_, fun c3 => ⟨fun c4 => ?_, fun c4 => ?_⟩⟩, fun c2 => ?_⟩, fun c1 => ⟨i, hi2, rfl, fun c2 => ?_, fun c2 => ?_⟩⟩⟩
    · rw [if_pos a0, if_pos ⟨c2, c1⟩, if_pos c3] at h; (exact h _ _ (RC_no hc) (hi_up (by decide) hi_r))
    · rw [l7.1, ← t1] at c4
      rw [if_pos a0, if_pos ⟨c2, c1⟩, if_neg c3, if_pos c4] at h
      rintro _ rfl
      exact h _ _ (RC_li0 hc) (hi_up (by decide) hi_r)
    · rw [l7.1, ← t1] at c4
      rw [if_pos a0, if_pos ⟨c2, c1⟩, if_neg c3, if_neg c4] at h
      rintro _ rfl
      exact h _ _ (RC_li0 hc) (hi_up (by decide) hi_r)
    · rw [if_pos a0, if_neg (fun q => c2 q.1)] at h; (exact h _ _ (RC_no hc) (hi_up (by decide) hi_r))
    · rw [if_pos a0, if_neg (fun q => c1 q.2)] at h; (exact h _ _ (RC_no hc) (hi_up (by decide) hi_r))
    · rw [if_pos a0, if_neg (fun q => c1 q.2)] at h; (exact h _ _ (RC_no hc) (hi_up (by decide) hi_r))
    · rw [if_neg a0, if_pos ⟨c2, c1⟩, if_pos c3] at h; (exact h _ _ (RC_no hc) (hi_up (by decide) hi_r))
    · rw [l7.2, ← t2] at c4
      rw [if_neg a0, if_pos ⟨c2, c1⟩, if_neg c3, if_pos c4] at h
      rintro _ rfl
      exact h _ _ (RC_li1 hc) (hi_up (by decide) hi_r)
    · rw [l7.2, ← t2] at c4
      rw [if_neg a0, if_pos ⟨c2, c1⟩, if_neg c3, if_neg c4] at h
      rintro _ rfl
      exact h _ _ (RC_li1 hc) (hi_up (by decide) hi_r)
    · rw [if_neg a0, if_neg (fun q => c2 q.1)] at h; (exact h _ _ (RC_no hc) (hi_up (by decide) hi_r))
    · rw [if_neg a0, if_neg (fun q => c1 q.2)] at h; (exact h _ _ (RC_no hc) (hi_up (by decide) hi_r))
    · rw [if_neg a0, if_neg (fun q => c1 q.2)] at h; (exact h _ _ (RC_no hc) (hi_up (by decide) hi_r))
  · (rw [if_neg c] at h; exact h _ _ (RC_no hc) (hi_up (by decide) hi_r))
theorem M_list {s a x : Int32} (hd : 2 ≤ d) (hm : RM I V) (hv : Inv V) (h : ∀ I' L', RM I' (o_list V s a x).2 → am_lo I' I → R (some (.int (o_list V s a x).1)) (am_mk I' L', 0, 0)) : am_meth d 234 [.ref 113, .int s, .int a, .int x] (am_mk I L, 0, 0) R := by
  obtain ⟨d, rfl⟩ : ∃ e, d = e + 1 := ⟨d - 1, by omega⟩
  refine ar_in rfl rfl rfl (r_M_list_0 (by omega) ?_)
  have mc := hm.1; have mf := hm.2
  simp (disch := decide) only [mc, mf]
  unfold o_list at h
  refine ⟨fun c => ?_, fun c => ?_⟩
  · rw [if_pos c] at h
    have hk := hv.1.2.2.2.1
    have hk2 := hk.2
    rw [hk.1] at c
    obtain ⟨i, hi, rfl⟩ := am_nat c (by omega)
    rw [nI_clamp (by omega)] at h
    have hi2 : i < 60 := by omega
    refine ⟨i, hi2, rfl, fun c2 => ⟨fun a0 => ⟨fun c1 => ⟨fun c3 => ?_, fun c3 => ⟨2 * i, by omega, am_2s, fun c4 => ?_, fun c4 => ?_⟩⟩, fun c1 => ?_⟩, fun a0 => ⟨hi2, fun c1 => ⟨fun c3 => ?_, fun c3 => ⟨2 * i + 1, by omega, am_2s1, fun c4 => ?_, fun c4 => ?_⟩⟩, fun c1 => ?_⟩⟩, fun c2 => ?_⟩
    · rw [if_pos a0, if_pos ⟨c2, c1⟩, if_pos c3] at h; (exact h _ _ (RM_no hm) (lo_up (by decide) lo_r))
    · rw [if_pos a0, if_pos ⟨c2, c1⟩, if_neg c3, if_pos c4] at h
      rintro _ rfl
      exact h _ _ (RM_up (by decide) rfl hm) (lo_up (by decide) lo_r)
    · rw [if_pos a0, if_pos ⟨c2, c1⟩, if_neg c3, if_neg c4] at h
      rintro _ rfl
      exact h _ _ (RM_up (by decide) rfl hm) (lo_up (by decide) lo_r)
    · rw [if_pos a0, if_neg (fun q => c1 q.2)] at h; (exact h _ _ (RM_no hm) (lo_up (by decide) lo_r))
    · rw [if_neg a0, if_pos ⟨c2, c1⟩, if_pos c3] at h; (exact h _ _ (RM_no hm) (lo_up (by decide) lo_r))
    · rw [if_neg a0, if_pos ⟨c2, c1⟩, if_neg c3, if_pos c4] at h
      rintro _ rfl
      exact h _ _ (RM_up (by decide) rfl hm) (lo_up (by decide) lo_r)
    · rw [if_neg a0, if_pos ⟨c2, c1⟩, if_neg c3, if_neg c4] at h
      rintro _ rfl
      exact h _ _ (RM_up (by decide) rfl hm) (lo_up (by decide) lo_r)
    · rw [if_neg a0, if_neg (fun q => c1 q.2)] at h; (exact h _ _ (RM_no hm) (lo_up (by decide) lo_r))
    · by_cases a0 : a = 0
      · rw [if_pos a0, if_neg (fun q => c2 q.1)] at h; (exact h _ _ (RM_no hm) (lo_up (by decide) lo_r))
      · rw [if_neg a0, if_neg (fun q => c2 q.1)] at h; (exact h _ _ (RM_no hm) (lo_up (by decide) lo_r))
  · (rw [if_neg c] at h; exact h _ _ (RM_no hm) (lo_up (by decide) lo_r))
theorem I_li {r : Nat} {x : Int32} (hx : ¬ x < 0) (hv : Inv V) : Inv (va_up V 132 (upd (V 132) r x)) := by
  obtain ⟨vn, vt, vk, vs, vx, vr, vp⟩ := hv
  refine ⟨vn, vt, vk, vs, vx, ⟨vr.1, fun q hq => ?_⟩, vp⟩
  show upd (V 132) r x q = -1 ∨ 0 ≤ upd (V 132) r x q
  rw [am_uat]
  split
  · exact Or.inr (Int32.not_lt.mp hx)
  · exact vr.2 q hq
theorem I_list {s a x : Int32} (hv : Inv V) : Inv (o_list V s a x).2 := by
  unfold o_list
  split
  · split
    · split
      · split
        · exact hv
        · rename_i c; exact I_li c hv
      · exact hv
    · split
      · split
        · exact hv
        · rename_i c; exact I_li c hv
      · exact hv
  · exact hv
end OP5
