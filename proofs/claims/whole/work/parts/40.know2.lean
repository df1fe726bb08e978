/-! trust; know; hand, trust, bound -/
section KN2
variable {d : Nat} {I V : am_V} {L : Nat → Nat → Int64} {R : am_R}
theorem ok_Re_knowTrust {k : Int32} (hd : 2 ≤ d) (hv : Inv V) (hk : am_kc I V k) (h75 : ∀ j, j < 20 → I 75 j = s_hand (V 125) (V 130) (V 131) (V 127) (am_n V 113 14) (nI j) k) (h : ∀ I' L', am_k5 I' I → I' 75 = I 75 → (∀ j, j < 20 → I' 76 j = s_trust (V 125) (V 129) (V 130) (V 131) (V 127) (am_n V 113 14) (nI j) k ∧ I' 77 j = s_kn (V 129) (V 130) (V 131) (V 127) (am_n V 113 14) (nI j) k) → R none (am_mk I' L', 0, 0)) : am_meth d 79 [.ref 74, .int k] (am_mk I L, 0, 0) R := by
  obtain ⟨d, rfl⟩ : ∃ e, d = e + 1 := ⟨d - 1, by omega⟩
  refine ar_in rfl rfl rfl (r_Reviews_knowTrust_0 ?_)
  have hn := hv.1.2.2.2.1
  have hn2 := hn.2
  refine ok_fill (by omega) mk_77 (by decide) ⟨va_up I 77 (am_fi (I 77) 0 20), _, rfl, by rw [mk_s77], ?_⟩
  refine ok_fill (by omega) mk_76 (by decide) ⟨va_up (va_up I 77 (am_fi (I 77) 0 20)) 76 (am_fi (I 76) 0 20), _, rfl, by rw [mk_s76]; rfl, ?_⟩
  have key := am_up (P := fun s => ∀ I', am_k5 I' I → I' 75 = I 75 → (∀ j, j < 20 → I' 77 j = s_n (fun s => decide (V 129 s = nI j) && s_ct (V 130) (V 131) (V 127) s 0 k) s ∧ I' 76 j = s_s (fun s => decide (V 129 s = nI j) && s_ct (V 130) (V 131) (V 127) s 0 k) (fun s => 100 * V 130 (2 * s) - s_hand (V 125) (V 130) (V 131) (V 127) (am_n V 113 14) (V 125 s) k) s) → am_Run am_X0 (am_meth d) 79 R 18 [some (.ref 74), some (.int k), some (.int (nI s)), none] [] (am_mk I' L, 0, 0)) (n := am_n V 113 14) (fun I' h5 h7 hj => ?_) (fun s hs ih I' h5 h7 hj => ?_)
  · refine key _ (k5_up (by decide) (k5_up (by decide) k5_r)) rfl (fun j hj => ⟨?_, ?_⟩)
    · show am_fi (I 77) 0 20 j = 0
      unfold am_fi; rw [if_pos hj]
    · show am_fi (I 76) 0 20 j = 0
      unfold am_fi; rw [if_pos hj]
  · have hk2 := kc_k5 h5 hk
    refine r_Reviews_knowTrust_18 (by omega) ⟨fun c => absurd (hk2.1 ▸ c) (nI_nlt (Nat.le_refl _) (by omega)), fun _ => ?_⟩
    refine am_up (P := fun m => ∀ I', am_k5 I' I → I' 75 = I 75 → (∀ j, j < 20 → I' 77 j = s_kn (V 129) (V 130) (V 131) (V 127) (am_n V 113 14) (nI j) k ∧ I' 76 j = if j < m then s_trust (V 125) (V 129) (V 130) (V 131) (V 127) (am_n V 113 14) (nI j) k else s_s (fun s => decide (V 129 s = nI j) && s_ct (V 130) (V 131) (V 127) s 0 k) (fun s => 100 * V 130 (2 * s) - s_hand (V 125) (V 130) (V 131) (V 127) (am_n V 113 14) (V 125 s) k) (am_n V 113 14)) → am_Run am_X0 (am_meth d) 79 R 106 [some (.ref 74), none, some (.int (nI m)), none] [] (am_mk I' L, 0, 0)) (n := 20) (fun I' h5 h7 hj => ?_) (fun m hm ih I' h5 h7 hj => ?_) I' h5 h7 (fun j q => ⟨(hj j q).1, by rw [(hj j q).2]; rfl⟩)
    · exact r_Reviews_knowTrust_106 ⟨fun c => absurd c (by decide), fun _ => h _ _ h5 h7 (fun j q => ⟨by rw [(hj j q).2, if_pos q], (hj j q).1⟩)⟩
    · have hjm := hj m hm
      rw [if_neg (Nat.lt_irrefl m)] at hjm
      refine r_Reviews_knowTrust_106 ⟨fun _ => ⟨hm, ?_⟩, fun c => absurd (nI_lt (b := 20) hm (by decide)) c⟩
      rw [hjm.1, hjm.2]
      refine ⟨kn_ne (by omega), ?_⟩
      rintro _ rfl
      refine ih _ (k5_up (by decide) h5) h7 (fun j q => ⟨(hj j q).1, ?_⟩)
      show upd (I' 76) m _ j = _
      rw [am_uat]
      by_cases e : j = m
      · subst e; rw [if_pos rfl, if_pos (by omega)]; rfl
      · rw [if_neg e, (hj j q).2]
        by_cases q2 : j < m
        · rw [if_pos q2, if_pos (by omega)]
        · rw [if_neg q2, if_neg (by omega)]
  · have hk2 := kc_k5 h5 hk
    have h60 : s < 60 := by omega
    have hh := (hv.2.2.2.1.1 s h60).1
    have hw := (hv.2.2.2.1.2 s hs).2.1
    have e79 := hk2.2.2.2.1 s h60
    have e67 : I' 67 = V 125 := hk2.2.1
    have e71 := hk2.2.2.1 s h60
    rw [if_pos hs] at e71
    refine r_Reviews_knowTrust_18 (by omega) ⟨fun _ => ⟨h60, ?_⟩, fun c => absurd (by rw [hk2.1]; exact nI_lt hs (by omega)) c⟩
    rw [e71]
    refine ⟨fun c => ?_, fun c => ⟨h60, fun c2 => ?_, fun c2 => ?_⟩⟩
    · refine ih _ h5 h7 (fun j q => ?_)
      have w : ¬ (fun s => decide (V 129 s = nI j) && s_ct (V 130) (V 131) (V 127) s 0 k) s = true := fun z => by
        have z1 := (wP_iff.mp z).1
        rw [z1] at c
        exact nI_pos (n := j) (by omega) c
      rw [s_n_f w, s_s_f w]
      exact hj j q
    · have hw2 : am_ix V 129 s 20 := hw.resolve_left (fun e => c (by rw [e]; decide))
      have hw3 := hw2.2
      have ct := (hk2.2.2.2.2 s h60).mp c2
      refine ⟨am_n V 129 s, hw2.2, hw2.1, am_n V 125 s, hh.2, by rw [e67]; exact hh.1, ?_⟩
      rintro _ rfl _ rfl
      refine ih _ (k5_up (by decide) (k5_up (by decide) h5)) h7 (fun j q => ?_)
      have hq := hj j q
      show upd (I' 77) (am_n V 129 s) (I' 77 (am_n V 129 s) + 1) j = _ ∧ upd (I' 76) (am_n V 129 s) (I' 76 (am_n V 129 s) + (100 * I' 79 s - I' 75 (am_n V 125 s))) j = _
      rw [am_uat, am_uat]
      by_cases e : j = am_n V 129 s
      · have w : (fun s => decide (V 129 s = nI j) && s_ct (V 130) (V 131) (V 127) s 0 k) s = true := wP_iff.mpr ⟨by rw [e]; exact hw2.1, ct⟩
        rw [if_pos e, if_pos e, s_n_t w, s_s_t w, ← e, hq.1, hq.2, e79, h7, h75 _ hh.2, ← hh.1]
        exact ⟨rfl, rfl⟩
      · have w : ¬ (fun s => decide (V 129 s = nI j) && s_ct (V 130) (V 131) (V 127) s 0 k) s = true := fun z => e (by
          have z1 := (wP_iff.mp z).1
          rw [hw2.1, nI_eq (by omega) (by omega)] at z1
          exact z1.symm)
        rw [if_neg e, if_neg e, s_n_f w, s_s_f w]
        exact hq
    · have ct := fun z => c2 ((hk2.2.2.2.2 s h60).mpr z)
      refine ih _ h5 h7 (fun j q => ?_)
      have w : ¬ (fun s => decide (V 129 s = nI j) && s_ct (V 130) (V 131) (V 127) s 0 k) s = true := fun z => ct (wP_iff.mp z).2
      rw [s_n_f w, s_s_f w]
      exact hj j q
theorem kc_of {k : Nat} (hc : RC I V) (hv : Inv V) (hk : k ≤ 1500) : am_kc I V (nI k) := by
  refine ⟨?_, hc.2.1.2.2.2.2.2.2.2.2.2.1, hc.2.2.1.2.2.2.1, fun s hs => (hc.2.2.2.1.1 s hs).1, fun s hs => cg_0 hc hv hs hk⟩
  rw [hc.1.2.2.2.1]; exact hv.1.2.2.2.1.1
/-- what is known on a day stands in the class's cells -/
def am_kds (I V : am_V) (k : Int32) : Prop := (∀ j, j < 20 → I 75 j = s_hand (V 125) (V 130) (V 131) (V 127) (am_n V 113 14) (nI j) k) ∧ ∀ j, j < 20 → I 76 j = s_trust (V 125) (V 129) (V 130) (V 131) (V 127) (am_n V 113 14) (nI j) k ∧ I 77 j = s_kn (V 129) (V 130) (V 131) (V 127) (am_n V 113 14) (nI j) k
/-- all but the cells of know -/
def am_k6 (I' I : am_V) : Prop := ∀ c, c ≠ 74 → c ≠ 75 → c ≠ 76 → c ≠ 77 → c ≠ 84 → I' c = I c
theorem k6_hi {I' : am_V} (h : am_k6 I' I) : am_hi I' I := fun c hc => h c (by omega) (by omega) (by omega) (by omega) (by omega)
theorem ok_Re_know8 {k : Nat} {x : Int32} (hd : 3 ≤ d) (hc : RC I V) (hv : Inv V) (hx : x = nI k) (hk : k ≤ 1500) (h : ∀ I' L', RC I' V → am_k6 I' I → am_kds I' V (nI k) → I' 74 8 = nI k → R none (am_mk I' L', 0, 0)) : am_meth d 76 [.ref 74, .int x] (am_mk I L, 0, 0) R := by
  obtain ⟨d, rfl⟩ : ∃ e, d = e + 1 := ⟨d - 1, by omega⟩
  subst hx
  refine ar_in rfl rfl rfl (r_Reviews_know_0 ⟨fun c => ?_, fun c => ?_⟩)
  · refine h _ _ hc (fun _ _ _ _ _ _ => rfl) ?_ c.symm
    rcases hc.2.2.2.2.1 with q | ⟨day, q1, q2, q3, q4⟩
    · rw [q, show (1501 : Int32) = nI 1501 from rfl, nI_eq (by omega) (by decide)] at c; omega
    · rw [q2, nI_eq (by omega) (by omega)] at c
      subst c
      exact ⟨q3, q4⟩
  · rintro _ rfl
    have k0 := kc_of hc hv hk
    have k1 : am_kc (va_up I 74 (upd (I 74) 8 (nI k))) V (nI k) := k0
    refine ok_Re_knowHands (by omega) hv k1 (fun I1 L1 h1 h75 => ⟨_, _, rfl, rfl, ?_⟩)
    refine ok_Re_knowTrust (by omega) hv (kc_k5 h1 k1) h75 (fun I2 L2 h2 h75b hj => ⟨_, _, rfl, rfl, ?_⟩)
    have kd : am_kds I2 V (nI k) := ⟨fun j q => by rw [h75b]; exact h75 j q, hj⟩
    have h12 : am_k5 I2 (va_up I 74 (upd (I 74) 8 (nI k))) := fun c a1 a2 a3 a4 => (h2 c a1 a2 a3 a4).trans (h1 c a1 a2 a3 a4)
    have cc : Cc I2 V := Or.inr ⟨k, hk, by rw [h12 74 (by decide) (by decide) (by decide) (by decide)]; rfl, kd⟩
    have rc0 : ∀ X : am_V, Cc X V → am_k5 X (va_up I 74 (upd (I 74) 8 (nI k))) → RC X V := fun X hX h5 => by
      have hx2 : ∀ c, c ≠ 75 → c ≠ 76 → c ≠ 77 → c ≠ 84 → X c = (va_up I 74 (upd (I 74) 8 (nI k))) c := h5
      obtain ⟨g1, g2, g3, g5, g6, g7⟩ := hc
      refine ⟨?_, ?_, ?_, ?_, hX, ?_⟩
      · unfold Cn at g1 ⊢; simp (disch := decide) only [hx2]; exact g1
      · unfold Ce at g2 ⊢; simp (disch := decide) only [hx2]; exact g2
      · unfold Ca am_r10 am_r20 am_q20 at g3 ⊢; simp (disch := decide) only [hx2]; exact g3
      · unfold Cr at g5 ⊢; simp (disch := decide) only [hx2]; exact g5
      · unfold Cp at g7 ⊢; simp (disch := decide) only [hx2]; exact g7
    refine h _ _ (rc0 I2 cc h12) (fun c a0 a1 a2 a3 a4 => ?_) kd (by rw [h12 74 (by decide) (by decide) (by decide) (by decide)]; rfl)
    rw [h12 c a1 a2 a3 a4, am_vat, if_neg a0]
theorem ok_Re_know {k : Nat} {x : Int32} (hd : 3 ≤ d) (hc : RC I V) (hv : Inv V) (hx : x = nI k) (hk : k ≤ 1500) (h : ∀ I' L', RC I' V → am_k6 I' I → am_kds I' V (nI k) → R none (am_mk I' L', 0, 0)) : am_meth d 76 [.ref 74, .int x] (am_mk I L, 0, 0) R := ok_Re_know8 hd hc hv hx hk (fun I' L' a b c _ => h I' L' a b c)
def s_ha (V : am_V) (ho k : Int32) : Int32 := s_hand (V 125) (V 130) (V 131) (V 127) (am_n V 113 14) ho k
def s_tr (V : am_V) (w k : Int32) : Int32 := s_trust (V 125) (V 129) (V 130) (V 131) (V 127) (am_n V 113 14) w k
def s_kw (V : am_V) (w k : Int32) : Int32 := s_kn (V 129) (V 130) (V 131) (V 127) (am_n V 113 14) w k
def o_hand (V : am_V) (ho k : Int32) : Int32 × am_V := if 0 ≤ ho ∧ ho < V 113 10 then (if k < 0 then o_no V 4 (-4) else if k ≤ V 113 0 then (s_ha V ho k, V) else o_no V 6 (-6)) else o_no V 1 (-1)
theorem C_hand {ho k : Int32} (hd : 4 ≤ d) (hc : RC I V) (hv : Inv V) (h : ∀ I' L', RC I' (o_hand V ho k).2 → am_hi I' I → R (some (.int (o_hand V ho k).1)) (am_mk I' L', 0, 0)) : am_meth d 20 [.ref 0, .int ho, .int k] (am_mk I L, 0, 0) R := by
  obtain ⟨d, rfl⟩ : ∃ e, d = e + 1 := ⟨d - 1, by omega⟩
  refine ar_in rfl rfl rfl (r_H_hand_0 (by omega) ?_)
  obtain ⟨⟨n1, n2, n3, n4, n5, n6, n7, n8⟩, ⟨e1, e2, e3, e4, e5, e6, e7, e8, e9, e10, e11, e12, e13, e14, e15, e16, e17⟩, -⟩ := id hc
  rw [n2, n3]
  unfold o_hand at h
  have ht := hv.1.1
  have ht2 := ht.2
  have hh := hv.1.2.2.1
  have hh2 := hh.2
  refine ⟨fun c => ⟨fun c2 => ?_, fun c2 => ?_, fun c2 => ?_⟩, fun c => ?_⟩
  · (rw [if_pos c, if_pos c2] at h; exact h _ _ (RC_no hc) (hi_up (by decide) hi_r))
  · rw [if_pos c, if_neg c2.1, if_neg (Int32.not_le.mpr c2.2)] at h; (exact h _ _ (RC_no hc) (hi_up (by decide) hi_r))
  · rw [if_pos c, if_neg c2.1, if_pos (Int32.not_lt.mp c2.2)] at h
    obtain ⟨i, hi, rfl⟩ := nI_of (x := k) c2.1
    rw [ht.1] at c2
    have c3 := (nI_leI hi (by omega)).mp (Int32.not_lt.mp c2.2)
    rw [hh.1] at c
    obtain ⟨o, ho1, rfl⟩ := am_nat c (by omega)
    refine ok_Re_know (by omega) hc hv rfl (by omega) (fun I' L' hc' h6 kd => ⟨_, _, rfl, rfl, o, by omega, rfl, ?_⟩)
    rw [kd.1 o (by omega)]
    exact h _ _ hc' (k6_hi h6)
  · (rw [if_neg c] at h; exact h _ _ (RC_no hc) (hi_up (by decide) hi_r))
theorem M_hand {ho k : Int32} (hd : 4 ≤ d) (hm : RM I V) (hv : Inv V) (h : ∀ I' L', RM I' (o_hand V ho k).2 → am_lo I' I → R (some (.int (o_hand V ho k).1)) (am_mk I' L', 0, 0)) : am_meth d 201 [.ref 113, .int ho, .int k] (am_mk I L, 0, 0) R := by
  obtain ⟨d, rfl⟩ : ∃ e, d = e + 1 := ⟨d - 1, by omega⟩
  refine ar_in rfl rfl rfl (r_M_hand_0 (by omega) ?_)
  rw [hm.2 10 rfl, hm.2 0 rfl]
  unfold o_hand at h
  refine ⟨fun c => ⟨fun c2 => ?_, fun c2 => ⟨fun c3 => ?_, fun c3 => ?_⟩⟩, fun c => ?_⟩
  · (rw [if_pos c, if_pos c2] at h; exact h _ _ (RM_no hm) (lo_up (by decide) lo_r))
  · rw [if_pos c, if_neg c2, if_pos c3] at h
    exact ok_M_handOf (by omega) hm hv ⟨_, _, _, rfl, rfl, h _ _ hm lo_r⟩
  · (rw [if_pos c, if_neg c2, if_neg c3] at h; exact h _ _ (RM_no hm) (lo_up (by decide) lo_r))
  · (rw [if_neg c] at h; exact h _ _ (RM_no hm) (lo_up (by decide) lo_r))
theorem I_hand {ho k : Int32} (hv : Inv V) : Inv (o_hand V ho k).2 := by
  unfold o_hand
  repeat' split
  all_goals exact hv
/-- a refusal where an answer may be below 0 -/
def o_far (V : am_V) (j : Nat) (x : Int32) : Int32 × am_V := (1000000000 - x, va_up V 156 (upd (V 156) j (V 156 j + 1)))
def o_trust (V : am_V) (w k : Int32) : Int32 × am_V := if 0 ≤ w ∧ w < V 113 4 then (if k < 0 then o_far V 4 (-4) else if k ≤ V 113 0 then (s_tr V w k, V) else o_far V 6 (-6)) else o_far V 1 (-1)
theorem C_trust {w k : Int32} (hd : 4 ≤ d) (hc : RC I V) (hv : Inv V) (h : ∀ I' L', RC I' (o_trust V w k).2 → am_hi I' I → R (some (.int (o_trust V w k).1)) (am_mk I' L', 0, 0)) : am_meth d 21 [.ref 0, .int w, .int k] (am_mk I L, 0, 0) R := by
  obtain ⟨d, rfl⟩ : ∃ e, d = e + 1 := ⟨d - 1, by omega⟩
  refine ar_in rfl rfl rfl (r_H_trust_0 (by omega) ?_)
  obtain ⟨⟨n1, n2, n3, n4, n5, n6, n7, n8⟩, ⟨e1, e2, e3, e4, e5, e6, e7, e8, e9, e10, e11, e12, e13, e14, e15, e16, e17⟩, -⟩ := id hc
  rw [n1, n3]
  unfold o_trust at h
  have ht := hv.1.1
  have ht2 := ht.2
  have hh := hv.1.2.1
  have hh2 := hh.2
  refine ⟨fun c => ⟨fun c2 => ?_, fun c2 => ?_, fun c2 => ?_⟩, fun c => ?_⟩
  · (rw [if_pos c, if_pos c2] at h; exact h _ _ (RC_no hc) (hi_up (by decide) hi_r))
  · rw [if_pos c, if_neg c2.1, if_neg (Int32.not_le.mpr c2.2)] at h; (exact h _ _ (RC_no hc) (hi_up (by decide) hi_r))
  · rw [if_pos c, if_neg c2.1, if_pos (Int32.not_lt.mp c2.2)] at h
    obtain ⟨i, hi, rfl⟩ := nI_of (x := k) c2.1
    rw [ht.1] at c2
    have c3 := (nI_leI hi (by omega)).mp (Int32.not_lt.mp c2.2)
    rw [hh.1] at c
    obtain ⟨o, ho1, rfl⟩ := am_nat c (by omega)
    refine ok_Re_know (by omega) hc hv rfl (by omega) (fun I' L' hc' h6 kd => ⟨_, _, rfl, rfl, o, by omega, rfl, ?_⟩)
    rw [(kd.2 o (by omega)).1]
    exact h _ _ hc' (k6_hi h6)
  · (rw [if_neg c] at h; exact h _ _ (RC_no hc) (hi_up (by decide) hi_r))
theorem M_trust {w k : Int32} (hd : 4 ≤ d) (hm : RM I V) (hv : Inv V) (h : ∀ I' L', RM I' (o_trust V w k).2 → am_lo I' I → R (some (.int (o_trust V w k).1)) (am_mk I' L', 0, 0)) : am_meth d 202 [.ref 113, .int w, .int k] (am_mk I L, 0, 0) R := by
  obtain ⟨d, rfl⟩ : ∃ e, d = e + 1 := ⟨d - 1, by omega⟩
  refine ar_in rfl rfl rfl (r_M_trust_0 (by omega) ?_)
  rw [hm.2 4 rfl, hm.2 0 rfl]
  unfold o_trust at h
  refine ⟨fun c => ⟨fun c2 => ?_, fun c2 => ⟨fun c3 => ?_, fun c3 => ?_⟩⟩, fun c => ?_⟩
  · (rw [if_pos c, if_pos c2] at h; exact h _ _ (RM_no hm) (lo_up (by decide) lo_r))
  · rw [if_pos c, if_neg c2, if_pos c3] at h
    exact ok_M_trustOf (by omega) hm hv ⟨_, _, _, rfl, rfl, h _ _ hm lo_r⟩
  · (rw [if_pos c, if_neg c2, if_neg c3] at h; exact h _ _ (RM_no hm) (lo_up (by decide) lo_r))
  · (rw [if_neg c] at h; exact h _ _ (RM_no hm) (lo_up (by decide) lo_r))
theorem I_trust {w k : Int32} (hv : Inv V) : Inv (o_trust V w k).2 := by
  unfold o_trust
  repeat' split
  all_goals exact hv
def o_bound (V : am_V) (w x : Int32) : Int32 × am_V := if 0 ≤ w ∧ w < V 113 4 then (if x = 0 then (s_tr V w (V 113 0) - 400 / (s_kw V w (V 113 0) + 1), V) else if x = 1 then (s_tr V w (V 113 0) + 400 / (s_kw V w (V 113 0) + 1), V) else o_far V 2 (-2)) else o_far V 1 (-1)
theorem C_bound {w x : Int32} (hd : 4 ≤ d) (hc : RC I V) (hv : Inv V) (h : ∀ I' L', RC I' (o_bound V w x).2 → am_hi I' I → R (some (.int (o_bound V w x).1)) (am_mk I' L', 0, 0)) : am_meth d 22 [.ref 0, .int w, .int x] (am_mk I L, 0, 0) R := by
  obtain ⟨d, rfl⟩ : ∃ e, d = e + 1 := ⟨d - 1, by omega⟩
  refine ar_in rfl rfl rfl (r_H_bound_0 (by omega) ?_)
  obtain ⟨⟨n1, n2, n3, n4, n5, n6, n7, n8⟩, ⟨e1, e2, e3, e4, e5, e6, e7, e8, e9, e10, e11, e12, e13, e14, e15, e16, e17⟩, -⟩ := id hc
  rw [n1, n3]
  unfold o_bound at h
  have ht := hv.1.1
  have ht2 := ht.2
  have hn2 := hv.1.2.2.2.1.2
  have hh := hv.1.2.1
  have hh2 := hh.2
  refine ⟨fun c => ⟨fun c2 => ?_, fun c2 => ⟨fun c3 => ?_, fun c3 => ?_⟩⟩, fun c => ?_⟩
  · rw [if_pos c, if_pos c2] at h
    rw [hh.1] at c
    obtain ⟨o, ho1, rfl⟩ := am_nat c (by omega)
    refine ok_Re_know (by omega) hc hv ht.1 (by omega) (fun I' L' hc' h6 kd => ⟨_, _, rfl, rfl, o, rfl, by omega, ?_, o, by omega, rfl, ?_⟩)
    · rw [(kd.2 o (by omega)).2]; exact kn_ne (by omega)
    · rw [(kd.2 o (by omega)).1, (kd.2 o (by omega)).2, ← ht.1]
      exact h _ _ hc' (k6_hi h6)
  · rw [if_pos c, if_neg c2, if_pos c3] at h
    rw [hh.1] at c
    obtain ⟨o, ho1, rfl⟩ := am_nat c (by omega)
    refine ok_Re_know (by omega) hc hv ht.1 (by omega) (fun I' L' hc' h6 kd => ⟨_, _, rfl, rfl, o, rfl, by omega, ?_, o, by omega, rfl, ?_⟩)
    · rw [(kd.2 o (by omega)).2]; exact kn_ne (by omega)
    · rw [(kd.2 o (by omega)).1, (kd.2 o (by omega)).2, ← ht.1]
      exact h _ _ hc' (k6_hi h6)
  · (rw [if_pos c, if_neg c2, if_neg c3] at h; exact h _ _ (RC_no hc) (hi_up (by decide) hi_r))
  · (rw [if_neg c] at h; exact h _ _ (RC_no hc) (hi_up (by decide) hi_r))
theorem M_bound {w x : Int32} (hd : 4 ≤ d) (hm : RM I V) (hv : Inv V) (h : ∀ I' L', RM I' (o_bound V w x).2 → am_lo I' I → R (some (.int (o_bound V w x).1)) (am_mk I' L', 0, 0)) : am_meth d 203 [.ref 113, .int w, .int x] (am_mk I L, 0, 0) R := by
  obtain ⟨d, rfl⟩ : ∃ e, d = e + 1 := ⟨d - 1, by omega⟩
  refine ar_in rfl rfl rfl (r_M_bound_0 (by omega) ?_)
  rw [hm.2 4 rfl, hm.2 0 rfl]
  unfold o_bound at h
  have hn2 := hv.1.2.2.2.1.2
  refine ⟨fun c => ⟨fun c2 => ?_, fun c2 => ⟨fun c3 => ?_, fun c3 => ?_⟩⟩, fun c => ?_⟩
  · rw [if_pos c, if_neg (fun e => by rw [e] at c2; exact absurd c2 (by decide)), if_neg (fun e => by rw [e] at c2; exact absurd c2 (by decide))] at h; (exact h _ _ (RM_no hm) (lo_up (by decide) lo_r))
  · rw [if_pos c] at h
    refine ok_M_reviewsOf (by omega) hm hv ⟨_, _, _, rfl, rfl, kn_ne (by omega), ?_⟩
    rw [hm.2 0 rfl]
    refine ⟨fun c4 => ?_, fun c4 => ?_⟩
    · rw [if_pos c4] at h
      exact ok_M_trustOf (by omega) hm hv ⟨_, _, _, rfl, rfl, h _ _ hm lo_r⟩
    · have c5 : x = 1 := by clear h; (simp (disch := omega) only [Int32.lt_iff_toInt_lt, Int32.le_iff_toInt_le, ← Int32.toInt_inj, Int32.reduceToInt, nI_toInt] at *; omega)
      rw [if_neg c4, if_pos c5] at h
      exact ok_M_trustOf (by omega) hm hv ⟨_, _, _, rfl, rfl, h _ _ hm lo_r⟩
  · rw [if_pos c, if_neg (fun e => by rw [e] at c3; exact absurd c3 (by decide)), if_neg (fun e => by rw [e] at c3; exact absurd c3 (by decide))] at h; (exact h _ _ (RM_no hm) (lo_up (by decide) lo_r))
  · (rw [if_neg c] at h; exact h _ _ (RM_no hm) (lo_up (by decide) lo_r))
theorem I_bound {w x : Int32} (hv : Inv V) : Inv (o_bound V w x).2 := by
  unfold o_bound
  repeat' split
  all_goals exact hv
end KN2
