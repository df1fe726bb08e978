/-! feed -/
theorem fd_u {i : Nat} (hi : i < 8) : ((8 * nI i : Int32).toInt64.toUInt64 &&& Int64.toUInt64 63) = UInt64.ofNat (8 * i) := by
  revert i
  decide +kernel
theorem fd_s {i : Nat} (hi : i < 8) : ((8 * nI i : Int32).toInt64 &&& 63) = Int64.ofNat (8 * i) := by
  revert i
  decide +kernel
theorem fd_um {i : Nat} (hi : i < 8) : ((UInt64.ofNat (8 * i)).toBitVec % 64).toNat = 8 * i := by
  revert i
  decide +kernel
theorem fd_sm {i : Nat} (hi : i < 8) : ((Int64.ofNat (8 * i)).toBitVec.smod 64).toNat = 8 * i := by
  revert i
  decide +kernel
theorem fd_255 {k : Nat} (hk : k < 8) : (255 : Int32).toBitVec.getLsbD k = true := by
  revert k
  decide +kernel
theorem fd_c {b : Int64} {i : Nat} (hi : i < 8) : ∃ x, x < 256 ∧ (((((b : Int64).toUInt64 >>> ((8 * (nI i) : Int32).toInt64.toUInt64 &&& Int64.toUInt64 63)).toInt64 : Int64).toInt32) &&& 255) = nI x ∧ vp_nar .byte (((b >>> ((8 * (nI i) : Int32).toInt64 &&& 63) : Int64).toInt32 : Int32).toInt8.toInt32) = (nI x).toInt8.toInt32 := by
  rw [fd_u hi, fd_s hi, pk_vb]
  obtain ⟨x, hx, e⟩ := pk_andE ((b.toUInt64 >>> UInt64.ofNat (8 * i)).toInt64.toInt32) (m := 255) 8 rfl
  refine ⟨x, hx, e, ?_⟩
  rw [← e]
  congr 1
  apply Int8.toBitVec_inj.mp
  apply BitVec.eq_of_getLsbD_eq
  intro k hk
  rw [Int32.toBitVec_toInt8, Int32.toBitVec_toInt8, BitVec.getLsbD_signExtend, BitVec.getLsbD_signExtend, Int32.toBitVec_and, BitVec.getLsbD_and, fd_255 hk, Bool.and_true, Int64.toBitVec_toInt32, Int64.toBitVec_toInt32, BitVec.getLsbD_signExtend, BitVec.getLsbD_signExtend, Int64.toBitVec_shiftRight]
  rw [if_pos (by omega), if_pos (by omega), if_pos (by omega), if_pos (by omega)]
  congr 2
  show (b.toBitVec.sshiftRight ((Int64.ofNat (8 * i)).toBitVec.smod 64).toNat).getLsbD k = _
  rw [fd_sm hi, BitVec.getLsbD_sshiftRight]
  show _ = (b.toUInt64 >>> UInt64.ofNat (8 * i)).toBitVec.getLsbD k
  rw [UInt64.toBitVec_shiftRight]
  show _ = (b.toBitVec >>> ((UInt64.ofNat (8 * i)).toBitVec % 64).toNat).getLsbD k
  rw [fd_um hi, BitVec.getLsbD_ushiftRight, if_pos (by omega), decide_eq_false (by omega)]
  rfl
def s_fb (b : Int64) (i : Nat) : Int32 := vp_nar .byte (((b >>> ((8 * (nI i) : Int32).toInt64 &&& 63) : Int64).toInt32 : Int32).toInt8.toInt32)
def s_fd (f : Nat → Int32) (z : Nat) (b : Int64) : Nat → Nat → Int32
  | 0 => f
  | i + 1 => upd (s_fd f z b i) (z + i) (s_fb b i)
theorem va_id {α : Type} {f : Nat → α} {c : Nat} : va_up f c (f c) = f := by
  funext x
  rw [am_vat]
  split
  · rename_i e; rw [e]
  · rfl
theorem upd_id {f : Nat → Int32} {c : Nat} : upd f c (f c) = f := by
  funext x
  rw [am_uat]
  split
  · rename_i e; rw [e]
  · rfl
section FD
variable {d : Nat} {I V : am_V} {L : Nat → Nat → Int64} {R : am_R}
def o_feed (V : am_V) (n : Int32) (b : Int64) : Int32 × am_V := if n < 1 then o_no V 4 (-4) else if n ≤ 8 ∧ V 113 24 + n ≤ 60 then (V 113 24 + n, va_up (va_up V 133 (s_fd (V 133) (am_n V 113 24) b n.toNatClampNeg)) 113 (upd (V 113) 24 (V 113 24 + n))) else o_no V 6 (-6)
theorem C_feed {n : Int32} {b : Int64} (hd : 3 ≤ d) (hc : RC I V) (hv : Inv V) (h : ∀ I' L', RC I' (o_feed V n b).2 → am_hi I' I → R (some (.int (o_feed V n b).1)) (am_mk I' L', 0, 0)) : am_meth d 15 [.ref 0, .int n, .long b] (am_mk I L, 0, 0) R := by
  obtain ⟨d, rfl⟩ : ∃ e, d = e + 1 := ⟨d - 1, by omega⟩
  refine ar_in rfl rfl rfl (r_H_feed_0 (by omega) ?_)
  obtain ⟨⟨n1, n2, n3, n4, n5, n6, n7, n8⟩, ⟨e1, e2, e3, e4, e5, e6, e7, e8, e9, e10, e11, e12, e13, e14, e15, e16, e17⟩, -⟩ := id hc
  rw [n6]
  unfold o_feed at h
  have hz := hv.1.2.2.2.2.1
  have hz2 := hz.2
  have hx : ∀ m : Nat, 1 ≤ m → m ≤ 8 → (nI m ≤ 60 - V 113 24 ↔ V 113 24 + nI m ≤ 60) := fun m h1 h2 => by
    have e1 : (60 : Int32) - V 113 24 = nI (60 - am_n V 113 24) := by rw [hz.1, show (60 : Int32) = nI 60 from rfl, pk_sub (by omega)]
    have e2 : V 113 24 + nI m = nI (am_n V 113 24 + m) := by rw [hz.1, nI_add]
    rw [e1, e2, nI_leI (by omega) (by omega), show (60 : Int32) = nI 60 from rfl, nI_leI (by omega) (by decide)]
    omega
  refine ⟨fun c => ?_, fun c => ?_, fun c => ⟨fun c2 => ?_, fun c2 => ?_⟩⟩
  · (rw [if_pos c] at h; exact h _ _ (RC_no hc) (hi_up (by decide) hi_r))
  · rw [if_neg c.1, if_neg (fun q => Int32.not_le.mpr c.2 q.1)] at h; (exact h _ _ (RC_no hc) (hi_up (by decide) hi_r))
  · obtain ⟨m, hm, rfl⟩ := nI_of (x := n) (fun q => c.1 (by clear h c2; (simp (disch := omega) only [Int32.lt_iff_toInt_lt, Int32.le_iff_toInt_le, ← Int32.toInt_inj, Int32.reduceToInt, nI_toInt] at *; omega)))
    have m8 := (nI_leI (b := 8) hm (by decide)).mp (Int32.not_lt.mp c.2)
    have m1 : 1 ≤ m := by
      rcases Nat.eq_zero_or_pos m with e | e
      · subst e; exact absurd (by decide) c.1
      · exact e
    have c3 := (hx m m1 m8).mp c2
    rw [if_neg c.1, if_pos ⟨Int32.not_lt.mp c.2, c3⟩, nI_clamp hm] at h
    have e2 : V 113 24 + nI m = nI (am_n V 113 24 + m) := by rw [hz.1, nI_add]
    rw [e2, show (60 : Int32) = nI 60 from rfl, nI_leI (by omega) (by decide)] at c3
    refine am_up (P := fun i => ∀ I' : am_V, (∀ c, c ≠ 91 → c ≠ 92 → I' c = I c) → I' 91 0 = nI (am_n V 113 24 + i) → (∀ j, j < 60 → ∃ x, x < 256 ∧ I' 92 j = nI x ∧ s_fd (V 133) (am_n V 113 24) b i j = (nI x).toInt8.toInt32) → am_Run am_X0 (am_meth d) 15 R 42 [some (.ref 0), some (.int (nI m)), some (.long b), none, none, some (.int (nI i))] [] (am_mk I' L, 0, 0)) (n := m) (fun I' f1 f2 f3 => ?_) (fun i hi ih I' f1 f2 f3 => ?_) I (fun _ _ _ => rfl) (by rw [n6]; exact hz.1) hc.2.2.2.2.2.1
    · refine r_H_feed_42 (by omega) ⟨fun c => absurd c (nI_nlt (Nat.le_refl _) (by omega)), fun _ => ?_⟩
      rw [f2, ← e2]
      refine h _ _ ?_ (fun c hc => f1 c (by omega) (by omega))
      obtain ⟨g1, g2, g3, g5, g6, g7⟩ := hc
      refine ⟨?_, ?_, ?_, ?_, ?_, ?_⟩
      · unfold Cn
        rw [f2, ← e2]
        simp (disch := decide) only [f1]
        exact ⟨g1.1, g1.2.1, g1.2.2.1, g1.2.2.2.1, g1.2.2.2.2.1, rfl, g1.2.2.2.2.2.2⟩
      · unfold Ce at g2 ⊢; simp (disch := decide) only [f1]; exact g2
      · unfold Ca am_r10 am_r20 am_q20 at g3 ⊢; simp (disch := decide) only [f1]; exact g3
      · unfold Cr at g5 ⊢; simp (disch := decide) only [f1]; exact g5
      · unfold Cc at g6 ⊢; simp (disch := decide) only [f1]; exact g6
      · unfold Cp at g7 ⊢
        refine ⟨f3, ?_⟩
        have g72 := g7.2
        simp (disch := decide) only [f1]
        exact g72
    · have e9 : am_n I' 91 0 = am_n V 113 24 + i := am_n_e f2 (by omega)
      refine r_H_feed_42 (by omega) ⟨fun _ => ⟨⟨by rw [e9]; exact f2, by rw [e9]; omega⟩, ?_⟩, fun c => absurd (nI_lt hi (by omega)) c⟩
      obtain ⟨x, hx1, hx2, hx3⟩ := fd_c (b := b) (i := i) (by omega)
      refine ih _ (fun c c1 c2 => ?_) ?_ (fun j hj => ?_)
      · unfold am_ad; rw [am_vat, if_neg c2, am_vat, if_neg c1]; exact f1 c c1 c2
      · show I' 91 0 + 1 = _
        rw [f2, nI_1]; rfl
      · show ∃ x, x < 256 ∧ upd (I' 92) (am_n I' 91 0) _ j = nI x ∧ upd (s_fd (V 133) (am_n V 113 24) b i) (am_n V 113 24 + i) (s_fb b i) j = _
        rw [e9, am_uat, am_uat]
        by_cases e : j = am_n V 113 24 + i
        · rw [if_pos e, if_pos e]; exact ⟨x, hx1, hx2, hx3⟩
        · rw [if_neg e, if_neg e]; exact f3 j hj
  · obtain ⟨m, hm, rfl⟩ := nI_of (x := n) (fun q => c.1 (by clear h c2; (simp (disch := omega) only [Int32.lt_iff_toInt_lt, Int32.le_iff_toInt_le, ← Int32.toInt_inj, Int32.reduceToInt, nI_toInt] at *; omega)))
    have m8 := (nI_leI (b := 8) hm (by decide)).mp (Int32.not_lt.mp c.2)
    have m1 : 1 ≤ m := by
      rcases Nat.eq_zero_or_pos m with e | e
      · subst e; exact absurd (by decide) c.1
      · exact e
    rw [if_neg c.1, if_neg (fun q => c2 ((hx m m1 m8).mpr q.2))] at h; (exact h _ _ (RC_no hc) (hi_up (by decide) hi_r))
theorem M_feed {n : Int32} {b : Int64} (hd : 3 ≤ d) (hm : RM I V) (hv : Inv V) (h : ∀ I' L', RM I' (o_feed V n b).2 → am_lo I' I → R (some (.int (o_feed V n b).1)) (am_mk I' L', 0, 0)) : am_meth d 195 [.ref 113, .int n, .long b] (am_mk I L, 0, 0) R := by
  obtain ⟨d, rfl⟩ : ∃ e, d = e + 1 := ⟨d - 1, by omega⟩
  refine ar_in rfl rfl rfl (r_M_feed_0 (by omega) ?_)
  rw [hm.2 24 rfl]
  unfold o_feed at h
  have hz := hv.1.2.2.2.2.1
  have hz2 := hz.2
  refine ⟨fun c => ?_, fun c => ⟨fun c2 => ⟨fun c3 => ?_, fun c3 => ?_⟩, fun c2 => ?_⟩⟩
  · (rw [if_pos c] at h; exact h _ _ (RM_no hm) (lo_up (by decide) lo_r))
  · obtain ⟨m, hm1, rfl⟩ := nI_of (x := n) (fun q => c (by clear h c2 c3; (simp (disch := omega) only [Int32.lt_iff_toInt_lt, Int32.le_iff_toInt_le, ← Int32.toInt_inj, Int32.reduceToInt, nI_toInt] at *; omega)))
    have m8 := (nI_leI (b := 8) hm1 (by decide)).mp c2
    rw [if_neg c, if_pos ⟨c2, c3⟩, nI_clamp hm1] at h
    have e2 : V 113 24 + nI m = nI (am_n V 113 24 + m) := by rw [hz.1, nI_add]
    rw [e2, show (60 : Int32) = nI 60 from rfl, nI_leI (by omega) (by decide)] at c3
    rw [e2] at h
    refine am_up (P := fun i => ∀ I' : am_V, RM I' (va_up (va_up V 133 (s_fd (V 133) (am_n V 113 24) b i)) 113 (upd (V 113) 24 (nI (am_n V 113 24 + i)))) → am_lo I' I → am_Run am_X0 (am_meth d) 195 R 39 [some (.ref 113), some (.int (nI m)), some (.long b), none, some (.int (nI i))] [] (am_mk I' L, 0, 0)) (n := m) (fun I' f1 f2 => ?_) (fun i hi ih I' f1 f2 => ?_) I ?_ lo_r
    · refine r_M_feed_39 ⟨fun c => absurd c (nI_nlt (Nat.le_refl _) (by omega)), fun _ => ?_⟩
      rw [f1.2 24 rfl]
      exact h _ _ f1 f2
    · have e9 : I' 113 24 = nI (am_n V 113 24 + i) := f1.2 24 rfl
      refine r_M_feed_39 ⟨fun _ => ⟨am_n V 113 24 + i, by omega, e9, ?_⟩, fun c => absurd (nI_lt hi (by omega)) c⟩
      rintro _ rfl _ rfl
      refine ih _ ⟨fun c hc => ?_, fun j hj => ?_⟩ (lo_up (by decide) (lo_up (by decide) f2))
      · have c113 : c ≠ 113 := fun e => by subst e; exact absurd hc (by decide)
        have q := f1.1 c hc
        simp only [am_vat, if_neg c113] at q ⊢
        by_cases e : c = 133
        · subst e
          rw [if_pos rfl] at q
          rw [if_pos rfl, if_pos rfl, q]
          rfl
        · rw [if_neg e] at q
          rw [if_neg e, if_neg e, q]
      · have q := f1.2 j hj
        have q2 : I' 113 j = upd (V 113) 24 (nI (am_n V 113 24 + i)) j := q
        show upd (I' 113) 24 (I' 113 24 + 1) j = upd (V 113) 24 (nI (am_n V 113 24 + (i + 1))) j
        rw [am_uat, am_uat]
        by_cases e : j = 24
        · rw [if_pos e, if_pos e, e9, nI_1]; rfl
        · rw [if_neg e, if_neg e, q2, am_uat, if_neg e]
    · have e0 : va_up (va_up V 133 (s_fd (V 133) (am_n V 113 24) b 0)) 113 (upd (V 113) 24 (nI (am_n V 113 24 + 0))) = V := by
        rw [s_fd, va_id, Nat.add_zero, ← hz.1, upd_id, va_id]
      rw [e0]; exact hm
  · rw [if_neg c, if_neg (fun q => c3 q.2)] at h; (exact h _ _ (RM_no hm) (lo_up (by decide) lo_r))
  · rw [if_neg c, if_neg (fun q => c2 q.1)] at h; (exact h _ _ (RM_no hm) (lo_up (by decide) lo_r))
theorem I_feed {n : Int32} {b : Int64} (hv : Inv V) : Inv (o_feed V n b).2 := by
  unfold o_feed
  split
  · exact hv
  · split
    · rename_i c c2
      have hz := hv.1.2.2.2.2.1
      have hz2 := hz.2
      obtain ⟨m, hm1, rfl⟩ := nI_of (x := n) (fun q => c (by clear c2; (simp (disch := omega) only [Int32.lt_iff_toInt_lt, Int32.le_iff_toInt_le, ← Int32.toInt_inj, Int32.reduceToInt, nI_toInt] at *; omega)))
      have m8 := (nI_leI (b := 8) hm1 (by decide)).mp c2.1
      have e2 : V 113 24 + nI m = nI (am_n V 113 24 + m) := by rw [hz.1, nI_add]
      have c3 := c2.2
      rw [e2, show (60 : Int32) = nI 60 from rfl, nI_leI (by omega) (by decide)] at c3
      obtain ⟨vn, vr⟩ := hv
      refine ⟨⟨vn.1, vn.2.1, vn.2.2.1, vn.2.2.2.1, ?_, vn.2.2.2.2.2⟩, vr⟩
      exact am_ixn (x := am_n V 113 24 + m) e2 (by omega) (by decide)
    · exact hv
end FD
