/-! stay keeps what V may be; count -/
section OP8
variable {d : Nat} {I V : am_V} {L : Nat → Nat → Int64} {R : am_R}
theorem am_n_e {V : am_V} {c j x : Nat} (h : V c j = nI x) (hx : x < 2 ^ 31) : am_n V c j = x := by unfold am_n; rw [h]; exact nI_clamp hx
theorem I_stay {ho a b : Int32} (hv : Inv V) : Inv (o_stay V ho a b).2 := by
  unfold o_stay
  split
  · rename_i c
    split
    · exact hv
    · split
      · rename_i c1 c2
        split
        · exact hv
        · have hn := hv.1.2.2.2.1
          have hn2 := hn.2
          have ht := hv.1.1
          have ht2 := ht.2
          have hx := lt_nI hn (by decide) c2.2
          have hh := hv.1.2.2.1
          have hh2 := hh.2
          rw [hh.1] at c
          obtain ⟨no, ho1, rfl⟩ := am_nat c (by omega)
          have a0 : ¬ a < 0 := fun q => c1 (Or.inl (by
            rw [ht.1]
            have := nI_pos' (n := am_n V 113 0) (by omega)
            (simp (disch := omega) only [Int32.lt_iff_toInt_lt, Int32.le_iff_toInt_le, ← Int32.toInt_inj, Int32.reduceToInt, nI_toInt] at *; omega)))
          have c12 : ¬ b < a := fun q => c1 (Or.inr q)
          have c11 : ¬ a ≤ V 113 0 := fun q => c1 (Or.inl q)
          have b0 : ¬ b < 0 := by clear c1 c2 c11; (simp (disch := omega) only [Int32.lt_iff_toInt_lt, Int32.le_iff_toInt_le, ← Int32.toInt_inj, Int32.reduceToInt, nI_toInt] at *; omega)
          obtain ⟨na, ha, rfl⟩ := nI_of (x := a) a0
          obtain ⟨nb, hb, rfl⟩ := nI_of (x := b) b0
          have c3' := (nI_leI (b := 1500) hb (by decide)).mp c2.1
          have c2' := (nI_leI ha hb).mp (Int32.not_lt.mp c12)
          rw [ht.1, nI_leI ha (by omega)] at c11
          obtain ⟨vn, vt, vk, vs, vx, vr, vp⟩ := hv
          have en : am_n (va_up (va_up (va_up (va_up (va_up (va_up V 125 (upd (V 125) (am_n V 113 14) (nI no))) 126 (upd (V 126) (am_n V 113 14) (nI na))) 127 (upd (V 127) (am_n V 113 14) (nI nb))) 128 (upd (V 128) (am_n V 113 14) 0)) 129 (upd (V 129) (am_n V 113 14) (-9))) 113 (upd (V 113) 14 (V 113 14 + 1))) 113 14 = am_n V 113 14 + 1 := by
            show (V 113 14 + 1).toNatClampNeg = _
            rw [hn.1, nI_1, nI_clamp (by omega)]
          have u1 : ∀ s, upd (V 128) (am_n V 113 14) 0 s = 1 → s ≠ am_n V 113 14 ∧ V 128 s = 1 := fun s q => by
            rw [am_uat] at q
            split at q
            · exact absurd q (by decide)
            · exact ⟨by assumption, q⟩
          have o1 : ∀ s, s ≠ am_n V 113 14 → (upd (V 126) (am_n V 113 14) (nI na) s).toNatClampNeg = am_n V 126 s ∧ (upd (V 127) (am_n V 113 14) (nI nb) s).toNatClampNeg = am_n V 127 s := fun s q => by
            rw [am_uat, am_uat, if_neg q, if_neg q]; exact ⟨rfl, rfl⟩
          have b1 : ∀ x, x ≤ 1500 → 0 ≤ nI x ∧ nI x < nI 1501 := fun x hx => ⟨nI_pos' (by omega), nI_lt (by omega) (by decide)⟩
          refine ⟨⟨vn.1, vn.2.1, vn.2.2.1, ix_inc hn.1 hx (by decide), vn.2.2.2.2⟩, vt, vk, ⟨fun s hs => ⟨?_, ?_, ?_, ?_, fun q => ?_⟩, fun s hs => ?_⟩, fun s s' hs hs' ne q q' qe => ?_, ⟨fun r hr => ⟨(vr.1 r hr).1, fun q => ?_⟩, vr.2⟩, vp⟩
          · exact ix_u (n := 60) (fun j hj => (vs.1 j hj).1) ⟨nI_pos' (by omega), nI_lt (by omega) (by decide)⟩ (by decide) s hs
          · exact ix_u (n := 60) (fun j hj => (vs.1 j hj).2.1) (b1 na (by omega)) (by decide) s hs
          · exact ix_u (n := 60) (fun j hj => (vs.1 j hj).2.2.1) (b1 nb (by omega)) (by decide) s hs
          · exact ix_u (n := 60) (fun j hj => (vs.1 j hj).2.2.2.1) (by decide) (by decide) s hs
          · rw [en] at q
            show upd (V 128) (am_n V 113 14) 0 s = 0
            rw [am_uat, if_neg (by omega)]
            exact (vs.1 s hs).2.2.2.2 (by omega)
          · rw [en] at hs
            by_cases e : s = am_n V 113 14
            · subst e
              refine ⟨⟨?_, ?_⟩, Or.inl ?_, fun _ => ?_, fun q => absurd rfl (u1 _ q).1⟩
              · show (upd (V 126) (am_n V 113 14) (nI na) (am_n V 113 14)).toNatClampNeg ≤ (upd (V 127) (am_n V 113 14) (nI nb) (am_n V 113 14)).toNatClampNeg
                rw [pk_us, pk_us, nI_clamp ha, nI_clamp hb]; exact c2'
              · show 1 ≤ (upd (V 126) (am_n V 113 14) (nI na) (am_n V 113 14)).toNatClampNeg
                rw [pk_us, nI_clamp ha]; omega
              · exact pk_us
              · exact pk_us
            · have w := vs.2 s (by omega)
              have o := o1 s e
              have u9 : upd (V 129) (am_n V 113 14) (-9) s = V 129 s := pk_un e
              have u8 : upd (V 128) (am_n V 113 14) 0 s = V 128 s := pk_un e
              refine ⟨⟨?_, ?_⟩, ?_, ?_, ?_⟩
              · show (upd (V 126) (am_n V 113 14) (nI na) s).toNatClampNeg ≤ (upd (V 127) (am_n V 113 14) (nI nb) s).toNatClampNeg
                rw [o.1, o.2]; exact w.1.1
              · show 1 ≤ (upd (V 126) (am_n V 113 14) (nI na) s).toNatClampNeg
                rw [o.1]; exact w.1.2
              · show upd (V 129) (am_n V 113 14) (-9) s = -9 ∨ upd (V 129) (am_n V 113 14) (-9) s = nI (upd (V 129) (am_n V 113 14) (-9) s).toNatClampNeg ∧ (upd (V 129) (am_n V 113 14) (-9) s).toNatClampNeg < 20
                rw [u9]; exact w.2.1
              · show upd (V 128) (am_n V 113 14) 0 s = 0 → upd (V 129) (am_n V 113 14) (-9) s = -9
                rw [u8, u9]; exact w.2.2.1
              · show upd (V 128) (am_n V 113 14) 0 s = 1 → upd (V 129) (am_n V 113 14) (-9) s = nI (upd (V 129) (am_n V 113 14) (-9) s).toNatClampNeg ∧ (upd (V 129) (am_n V 113 14) (-9) s).toNatClampNeg < 20
                rw [u8, u9]; exact w.2.2.2
          · rw [en] at hs hs'
            have a1 := u1 s q
            have a2 := u1 s' q'
            have qe2 : upd (V 129) (am_n V 113 14) (-9) s = upd (V 129) (am_n V 113 14) (-9) s' := qe
            rw [pk_un a1.1, pk_un a2.1] at qe2
            have w := vx s s' (by have := a1.1; omega) (by have := a2.1; omega) ne a1.2 a2.2 qe2
            show (upd (V 127) (am_n V 113 14) (nI nb) s).toNatClampNeg < (upd (V 126) (am_n V 113 14) (nI na) s').toNatClampNeg ∨ (upd (V 127) (am_n V 113 14) (nI nb) s').toNatClampNeg < (upd (V 126) (am_n V 113 14) (nI na) s).toNatClampNeg
            rw [(o1 s a1.1).1, (o1 s a1.1).2, (o1 s' a2.1).1, (o1 s' a2.1).2]
            exact w
          · have w := (vr.1 r hr).2 q
            have e : r / 2 ≠ am_n V 113 14 := by have := w.1; omega
            refine ⟨?_, ?_, ?_⟩
            · rw [en]; exact Nat.lt_succ_of_lt w.1
            · show upd (V 128) (am_n V 113 14) 0 (r / 2) = 1
              rw [pk_un e]; exact w.2.1
            · show (upd (V 127) (am_n V 113 14) (nI nb) (r / 2)).toNatClampNeg < am_n V 113 0
              rw [(o1 _ e).2]; exact w.2.2
      · exact hv
  · exact hv
/-! count -/
def s_ctg (V : am_V) : Int32 := s_n (fun r => s_ct (V 130) (V 131) (V 127) (r / 2) (r % 2) (V 113 0)) (2 * am_n V 113 14)
def o_count (V : am_V) (w : Int32) : Int32 × am_V := (if 11 ≤ w ∧ w ≤ 16 then V 156 (w - 10).toNatClampNeg else if 4 ≤ w ∧ w ≤ 6 then s_n (fun s => decide (V 128 s = w - 4)) (am_n V 113 14) else if w = 0 then V 113 0 else if w = 1 then V 113 4 else if w = 2 then V 113 10 else if w = 3 then V 113 14 else if w = 7 then V 113 25 else if w = 8 then s_n (fun r => !decide (V 130 r = 0)) (2 * am_n V 113 14) else if w = 9 then s_ctg V else if w = 10 then V 113 24 else if w = 17 then V 113 39 else if w = 18 then V 113 41 else -9, V)
theorem ok_Re_countingOn (hd : 2 ≤ d) (hc : RC I V) (hv : Inv V) (h : R (some (.int (s_ctg V))) (am_mk I L, 0, 0)) : am_meth d 84 [.ref 74, .int (V 113 0)] (am_mk I L, 0, 0) R := by
  obtain ⟨d, rfl⟩ : ∃ e, d = e + 1 := ⟨d - 1, by omega⟩
  refine ar_in rfl rfl rfl (r_Reviews_countingOn_0 ?_)
  obtain ⟨⟨n1, n2, n3, n4, n5, n6, n7, n8⟩, ⟨e1, e2, e3, e4, e5, e6, e7, e8, e9, e10, e11, e12, e13, e14, e15, e16, e17⟩, -⟩ := id hc
  have hn := hv.1.2.2.2.1
  have hn2 := hn.2
  have ht := hv.1.1
  have ht2 := ht.2
  have en : I 66 1 = nI (am_n V 113 14) := by rw [n4]; exact hn.1
  refine am_up (P := fun s => am_Run am_X0 (am_meth d) 84 R 4 [some (.ref 74), some (.int (V 113 0)), some (.int (s_n (fun r => s_ct (V 130) (V 131) (V 127) (r / 2) (r % 2) (V 113 0)) (2 * s))), some (.int (nI s))] [] (am_mk I L, 0, 0)) (n := am_n V 113 14) ?_ (fun s hs ih => ?_)
  · exact r_Reviews_countingOn_4 (by omega) ⟨fun c => absurd (en ▸ c) (nI_nlt (Nat.le_refl _) (by omega)), fun _ => h⟩
  · have h60 : s < 60 := by omega
    have g0 := cg_0 hc hv h60 (k := am_n V 113 0) (by omega)
    have g1 := cg_1 hc hv h60 (k := am_n V 113 0) (by omega)
    rw [← ht.1] at g0 g1
    rw [show 2 * (s + 1) = 2 * s + 1 + 1 from by omega] at ih
    have p0 : s_ct (V 130) (V 131) (V 127) (2 * s / 2) (2 * s % 2) (V 113 0) = s_ct (V 130) (V 131) (V 127) s 0 (V 113 0) := by rw [e_2, e_2m]
    have p1 : s_ct (V 130) (V 131) (V 127) ((2 * s + 1) / 2) ((2 * s + 1) % 2) (V 113 0) = s_ct (V 130) (V 131) (V 127) s 1 (V 113 0) := by rw [e_21, e_21m]
    refine r_Reviews_countingOn_4 (by omega) ⟨fun _ => ⟨h60, fun c => ⟨h60, fun c2 => ?_, fun c2 => ?_⟩, fun c => ⟨h60, fun c2 => ?_, fun c2 => ?_⟩⟩, fun c => absurd (by rw [en]; exact nI_lt hs (by omega)) c⟩
    · rw [s_n_t (by rw [p1]; exact g1.mp c2), s_n_t (by rw [p0]; exact g0.mp c)] at ih; exact ih
    · rw [s_n_f (by rw [p1]; exact fun q => c2 (g1.mpr q)), s_n_t (by rw [p0]; exact g0.mp c)] at ih; exact ih
    · rw [s_n_t (by rw [p1]; exact g1.mp c2), s_n_f (by rw [p0]; exact fun q => c (g0.mpr q))] at ih; exact ih
    · rw [s_n_f (by rw [p1]; exact fun q => c2 (g1.mpr q)), s_n_f (by rw [p0]; exact fun q => c (g0.mpr q))] at ih; exact ih
theorem ok_M_reviews0 (hd : 2 ≤ d) (hm : RM I V) (hv : Inv V) (h : R (some (.int (s_n (fun r => !decide (V 130 r = 0)) (2 * am_n V 113 14)))) (am_mk I L, 0, 0)) : am_meth d 241 [.ref 113, .int 0] (am_mk I L, 0, 0) R := by
  obtain ⟨d, rfl⟩ : ∃ e, d = e + 1 := ⟨d - 1, by omega⟩
  refine ar_in rfl rfl rfl (r_M_reviews0_0 ?_)
  have mc := hm.1; have mf := hm.2
  have hn := hv.1.2.2.2.1
  have hn2 := hn.2
  have en : 2 * I 113 14 = nI (2 * am_n V 113 14) := by rw [mf 14 rfl, hn.1, am_2s]
  refine am_up (P := fun s => am_Run am_X0 (am_meth d) 241 R 4 [some (.ref 113), some (.int 0), some (.int (s_n (fun r => !decide (V 130 r = 0)) s)), some (.int (nI s))] [] (am_mk I L, 0, 0)) (n := 2 * am_n V 113 14) ?_ (fun s hs ih => ?_)
  · exact r_M_reviews0_4 ⟨fun c => absurd (en ▸ c) (nI_nlt (Nat.le_refl _) (by omega)), fun _ => h⟩
  · have h120 : s < 120 := by omega
    have sp := st_pos hv h120
    refine r_M_reviews0_4 ⟨fun _ => ⟨h120, ?_⟩, fun c => absurd (by rw [en]; exact nI_lt hs (by omega)) c⟩
    rw [mc 130 rfl]
    refine ⟨fun c => ?_, fun c => ?_⟩
    · have z : V 130 s = 0 := Decidable.byContradiction (fun q => Int32.not_le.mpr (sp.mpr q) c)
      rw [s_n_f (by rw [z]; decide)] at ih; exact ih
    · have z := sp.mp (Int32.not_le.mp c)
      rw [s_n_t (by rw [decide_eq_false z]; rfl)] at ih; exact ih
theorem ok_M_reviews1 (hd : 2 ≤ d) (hm : RM I V) (hv : Inv V) (h : R (some (.int (s_ctg V))) (am_mk I L, 0, 0)) : am_meth d 241 [.ref 113, .int 1] (am_mk I L, 0, 0) R := by
  obtain ⟨d, rfl⟩ : ∃ e, d = e + 1 := ⟨d - 1, by omega⟩
  refine ar_in rfl rfl rfl (r_M_reviews1_0 ?_)
  have mc := hm.1; have mf := hm.2
  have hn := hv.1.2.2.2.1
  have hn2 := hn.2
  have en : 2 * I 113 14 = nI (2 * am_n V 113 14) := by rw [mf 14 rfl, hn.1, am_2s]
  refine am_up (P := fun s => am_Run am_X0 (am_meth d) 241 R 4 [some (.ref 113), some (.int 1), some (.int (s_n (fun r => s_ct (V 130) (V 131) (V 127) (r / 2) (r % 2) (V 113 0)) s)), some (.int (nI s))] [] (am_mk I L, 0, 0)) (n := 2 * am_n V 113 14) ?_ (fun s hs ih => ?_)
  · exact r_M_reviews1_4 (by omega) ⟨fun c => absurd (en ▸ c) (nI_nlt (Nat.le_refl _) (by omega)), fun _ => h⟩
  · have h120 : s < 120 := by omega
    have sp := st_pos hv h120
    refine r_M_reviews1_4 (by omega) ⟨fun _ => ⟨h120, ?_⟩, fun c => absurd (by rw [en]; exact nI_lt hs (by omega)) c⟩
    rw [mc 130 rfl, mc 131 rfl, mc 127 rfl, mf 0 rfl]
    refine ⟨fun c => ?_, fun c => ⟨h120, fun c2 => ?_, fun c2 => ?_⟩⟩
    · have z : V 130 s = 0 := Decidable.byContradiction (fun q => Int32.not_le.mpr (sp.mpr q) c)
      rw [s_n_f (by rw [ct_iff, show 2 * (s / 2) + s % 2 = s from by omega]; exact fun q => q.1.1 z)] at ih; exact ih
    · rw [s_n_t c2] at ih; exact ih
    · rw [s_n_f c2] at ih; exact ih
end OP8
