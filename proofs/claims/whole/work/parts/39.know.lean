/-! what is known for a day -/
theorem s_n_nat {P : Nat → Bool} (n : Nat) : ∃ m, m ≤ n ∧ s_n P n = nI m := by
  induction n with
  | zero => exact ⟨0, Nat.le_refl _, rfl⟩
  | succ n ih =>
    obtain ⟨m, hm, e⟩ := ih
    by_cases c : P n = true
    · exact ⟨m + 1, by omega, by rw [s_n_t c, e, nI_1]⟩
    · exact ⟨m, by omega, by rw [s_n_f c, e]⟩
theorem s_s_mul {P : Nat → Bool} {x : Nat → Int32} (c : Int32) (n : Nat) : s_s P (fun s => c * x s) n = c * s_s P x n := by
  induction n with
  | zero => exact (Int32.mul_zero).symm
  | succ n ih =>
    by_cases q : P n = true
    · rw [s_s_t q, s_s_t q, ih, Int32.mul_add]
    · rw [s_s_f q, s_s_f q, ih]
section KN
variable {d : Nat} {I V : am_V} {L : Nat → Nat → Int64} {R : am_R}
theorem kn_ne {W S D T : Nat → Int32} {n : Nat} {w k : Int32} (hn : n ≤ 60) : ¬ s_kn W S D T n w k + 1 = 0 := by
  obtain ⟨m, hm, e⟩ := s_n_nat (P := fun s => decide (W s = w) && s_ct S D T s 0 k) n
  unfold s_kn
  rw [e, nI_1]
  exact nI_ne0 (by omega) (by omega)
theorem ok_M_handOf {ho k : Int32} (hd : 2 ≤ d) (hm : RM I V) (hv : Inv V) (h : R (some (.int (s_hand (V 125) (V 130) (V 131) (V 127) (am_n V 113 14) ho k))) (am_mk I L, 0, 0)) : am_meth d 186 [.ref 113, .int ho, .int k] (am_mk I L, 0, 0) R := by
  obtain ⟨d, rfl⟩ : ∃ e, d = e + 1 := ⟨d - 1, by omega⟩
  refine ar_in rfl rfl rfl (r_M_handOf_0 ?_)
  have mc := hm.1; have mf := hm.2
  have hn := hv.1.2.2.2.1
  have hn2 := hn.2
  have en : I 113 14 = nI (am_n V 113 14) := by rw [mf 14 rfl]; exact hn.1
  refine am_up (P := fun s => am_Run am_X0 (am_meth d) 186 R 8 [some (.ref 113), some (.int ho), some (.int k), some (.int (s_n (s_hP V ho k 0) s)), some (.int (s_s (s_hP V ho k 0) (fun s => V 130 (2 * s)) s)), some (.int (nI s))] [] (am_mk I L, 0, 0)) (n := am_n V 113 14) ?_ (fun s hs ih => ?_)
  · refine r_M_handOf_8 (by omega) ⟨fun c => absurd (en ▸ c) (nI_nlt (Nat.le_refl _) (by omega)), fun _ => ?_⟩
    unfold s_hand at h
    refine ⟨fun c => ?_, fun c => ⟨c, ?_⟩⟩
    · have c' : s_n (fun s => decide (V 125 s = ho) && s_ct (V 130) (V 131) (V 127) s 0 k) (am_n V 113 14) = 0 := c
      rw [if_pos c'] at h; exact h
    · have c' : ¬ s_n (fun s => decide (V 125 s = ho) && s_ct (V 130) (V 131) (V 127) s 0 k) (am_n V 113 14) = 0 := c
      rw [if_neg c'] at h; exact h
  · have h60 : s < 60 := by omega
    refine r_M_handOf_8 (by omega) ⟨fun _ => ⟨h60, ?_⟩, fun c => absurd (by rw [en]; exact nI_lt hs (by omega)) c⟩
    rw [mc 125 rfl]
    refine ⟨fun c => ⟨2 * s, am_2s, by omega, ?_⟩, fun c => ?_⟩
    · rw [e_2, e_2m, mc 130 rfl, mc 131 rfl, mc 127 rfl]
      refine ⟨fun c2 => ⟨2 * s, by omega, am_2s, ?_⟩, fun c2 => ?_⟩
      · have q := hP_iff.mpr ⟨c, c2⟩
        rw [s_n_t q, s_s_t q] at ih
        exact ih
      · have q := fun w => c2 (hP_iff (ho := ho).mp w).2
        rw [s_n_f q, s_s_f q] at ih
        exact ih
    · have q := fun w => c (hP_iff (k := k) (side := 0).mp w).1
      rw [s_n_f q, s_s_f q] at ih
      exact ih
theorem wP_iff {w k : Int32} {s : Nat} : (fun s => decide (V 129 s = w) && s_ct (V 130) (V 131) (V 127) s 0 k) s = true ↔ V 129 s = w ∧ s_ct (V 130) (V 131) (V 127) s 0 k = true := by
  show (decide (V 129 s = w) && s_ct (V 130) (V 131) (V 127) s 0 k) = true ↔ _
  rw [Bool.and_eq_true_iff, decide_eq_true_iff]
theorem ok_M_reviewsOf {w k : Int32} (hd : 2 ≤ d) (hm : RM I V) (hv : Inv V) (h : R (some (.int (s_kn (V 129) (V 130) (V 131) (V 127) (am_n V 113 14) w k))) (am_mk I L, 0, 0)) : am_meth d 187 [.ref 113, .int w, .int k] (am_mk I L, 0, 0) R := by
  obtain ⟨d, rfl⟩ : ∃ e, d = e + 1 := ⟨d - 1, by omega⟩
  refine ar_in rfl rfl rfl (r_M_reviewsOf_0 ?_)
  have mc := hm.1; have mf := hm.2
  have hn := hv.1.2.2.2.1
  have hn2 := hn.2
  have en : I 113 14 = nI (am_n V 113 14) := by rw [mf 14 rfl]; exact hn.1
  refine am_up (P := fun s => am_Run am_X0 (am_meth d) 187 R 5 [some (.ref 113), some (.int w), some (.int k), some (.int (s_n (fun s => decide (V 129 s = w) && s_ct (V 130) (V 131) (V 127) s 0 k) s)), some (.int (nI s))] [] (am_mk I L, 0, 0)) (n := am_n V 113 14) ?_ (fun s hs ih => ?_)
  · exact r_M_reviewsOf_5 (by omega) ⟨fun c => absurd (en ▸ c) (nI_nlt (Nat.le_refl _) (by omega)), fun _ => h⟩
  · have h60 : s < 60 := by omega
    refine r_M_reviewsOf_5 (by omega) ⟨fun _ => ⟨h60, ?_⟩, fun c => absurd (by rw [en]; exact nI_lt hs (by omega)) c⟩
    rw [mc 129 rfl]
    refine ⟨fun c => ⟨2 * s, am_2s, by omega, ?_⟩, fun c => ?_⟩
    · rw [e_2, e_2m, mc 130 rfl, mc 131 rfl, mc 127 rfl]
      refine ⟨fun c2 => ?_, fun c2 => ?_⟩
      · rw [s_n_t (wP_iff.mpr ⟨c, c2⟩)] at ih
        exact ih
      · rw [s_n_f (fun q => c2 (wP_iff.mp q).2)] at ih
        exact ih
    · rw [s_n_f (fun q => c (wP_iff.mp q).1)] at ih
      exact ih
theorem ok_M_trustOf {w k : Int32} (hd : 3 ≤ d) (hm : RM I V) (hv : Inv V) (h : R (some (.int (s_trust (V 125) (V 129) (V 130) (V 131) (V 127) (am_n V 113 14) w k))) (am_mk I L, 0, 0)) : am_meth d 184 [.ref 113, .int w, .int k] (am_mk I L, 0, 0) R := by
  obtain ⟨d, rfl⟩ : ∃ e, d = e + 1 := ⟨d - 1, by omega⟩
  refine ar_in rfl rfl rfl (r_M_trustOf_0 ?_)
  have mc := hm.1; have mf := hm.2
  have hn := hv.1.2.2.2.1
  have hn2 := hn.2
  have en : I 113 14 = nI (am_n V 113 14) := by rw [mf 14 rfl]; exact hn.1
  refine am_up (P := fun s => am_Run am_X0 (am_meth d) 184 R 5 [some (.ref 113), some (.int w), some (.int k), some (.int (s_s (fun s => decide (V 129 s = w) && s_ct (V 130) (V 131) (V 127) s 0 k) (fun s => 100 * V 130 (2 * s) - s_hand (V 125) (V 130) (V 131) (V 127) (am_n V 113 14) (V 125 s) k) s)), some (.int (nI s))] [] (am_mk I L, 0, 0)) (n := am_n V 113 14) ?_ (fun s hs ih => ?_)
  · refine r_M_trustOf_5 (by omega) ⟨fun c => absurd (en ▸ c) (nI_nlt (Nat.le_refl _) (by omega)), fun _ => ?_⟩
    exact ok_M_reviewsOf (by omega) hm hv ⟨_, _, _, rfl, rfl, kn_ne (by omega), h⟩
  · have h60 : s < 60 := by omega
    refine r_M_trustOf_5 (by omega) ⟨fun _ => ⟨h60, ?_⟩, fun c => absurd (by rw [en]; exact nI_lt hs (by omega)) c⟩
    rw [mc 129 rfl]
    refine ⟨fun c => ⟨2 * s, am_2s, by omega, ?_⟩, fun c => ?_⟩
    · rw [e_2, e_2m, mc 130 rfl, mc 131 rfl, mc 127 rfl]
      refine ⟨fun c2 => ⟨2 * s, by omega, am_2s, ?_⟩, fun c2 => ?_⟩
      · rw [s_s_t (wP_iff.mpr ⟨c, c2⟩)] at ih
        exact ok_M_handOf (by omega) hm hv ⟨_, _, _, rfl, rfl, by rw [mc 125 rfl]; exact ih⟩
      · rw [s_s_f (fun q => c2 (wP_iff.mp q).2)] at ih
        exact ih
    · rw [s_s_f (fun q => c (wP_iff.mp q).1)] at ih
      exact ih
/-- all but the class's cells of what is known -/
def am_k5 (I' I : am_V) : Prop := ∀ c, c ≠ 75 → c ≠ 76 → c ≠ 77 → c ≠ 84 → I' c = I c
theorem k5_r : am_k5 I I := fun _ _ _ _ _ => rfl
theorem k5_up {I' : am_V} {c : Nat} {f : Nat → Int32} (hc : c = 75 ∨ c = 76 ∨ c = 77 ∨ c = 84) (h : am_k5 I' I) : am_k5 (va_up I' c f) I := fun x h1 h2 h3 h4 => by rw [am_vat, if_neg (by omega)]; exact h x h1 h2 h3 h4
theorem RC_k5 {I' : am_V} (h : am_k5 I' I) (hc : RC I V) (hx : Cc I' V) : RC I' V := by
  obtain ⟨h1, h2, h3, h5, h6, h7⟩ := hc
  have hx2 : ∀ c, c ≠ 75 → c ≠ 76 → c ≠ 77 → c ≠ 84 → I' c = I c := h
  refine ⟨?_, ?_, ?_, ?_, hx, ?_⟩
  · unfold Cn at h1 ⊢; simp (disch := decide) only [hx2]; exact h1
  · unfold Ce at h2 ⊢; simp (disch := decide) only [hx2]; exact h2
  · unfold Ca am_r10 am_r20 am_q20 at h3 ⊢; simp (disch := decide) only [hx2]; exact h3
  · unfold Cr at h5 ⊢; simp (disch := decide) only [hx2]; exact h5
  · unfold Cp at h7 ⊢; simp (disch := decide) only [hx2]; exact h7
/-- the class's cells that isCounting reads are as V says -/
def am_kc (I V : am_V) (k : Int32) : Prop := I 66 1 = nI (am_n V 113 14) ∧ I 67 = V 125 ∧ (∀ s, s < 60 → I 71 s = if s < am_n V 113 14 then V 129 s else -9) ∧ (∀ s, s < 60 → I 79 s = V 130 (2 * s)) ∧ ∀ s, s < 60 → (am_cg I 82 83 s k ↔ s_ct (V 130) (V 131) (V 127) s 0 k = true)
theorem kc_k5 {I' : am_V} {k : Int32} (h : am_k5 I' I) (hk : am_kc I V k) : am_kc I' V k := by
  have hx2 : ∀ c, c ≠ 75 → c ≠ 76 → c ≠ 77 → c ≠ 84 → I' c = I c := h
  unfold am_kc am_cg at hk ⊢
  simp (disch := decide) only [hx2]
  exact hk
theorem ok_Re_knowHands {k : Int32} (hd : 2 ≤ d) (hv : Inv V) (hk : am_kc I V k) (h : ∀ I' L', am_k5 I' I → (∀ j, j < 20 → I' 75 j = s_hand (V 125) (V 130) (V 131) (V 127) (am_n V 113 14) (nI j) k) → R none (am_mk I' L', 0, 0)) : am_meth d 77 [.ref 74, .int k] (am_mk I L, 0, 0) R := by
  obtain ⟨d, rfl⟩ : ∃ e, d = e + 1 := ⟨d - 1, by omega⟩
  refine ar_in rfl rfl rfl (r_Reviews_knowHands_0 ?_)
  have hn := hv.1.2.2.2.1
  have hn2 := hn.2
  refine ok_fill (by omega) mk_84 (by decide) ⟨va_up I 84 (am_fi (I 84) 0 20), _, rfl, by rw [mk_s84], ?_⟩
  refine ok_fill (by omega) mk_75 (by decide) ⟨va_up (va_up I 84 (am_fi (I 84) 0 20)) 75 (am_fi (I 75) 0 20), _, rfl, by rw [mk_s75]; rfl, ?_⟩
  have key := am_up (P := fun s => ∀ I', am_k5 I' I → (∀ j, j < 20 → I' 84 j = s_n (s_hP V (nI j) k 0) s ∧ I' 75 j = s_s (s_hP V (nI j) k 0) (fun s => 100 * V 130 (2 * s)) s) → am_Run am_X0 (am_meth d) 77 R 18 [some (.ref 74), some (.int k), some (.int (nI s))] [] (am_mk I' L, 0, 0)) (n := am_n V 113 14) (fun I' h5 hj => ?_) (fun s hs ih I' h5 hj => ?_)
  · refine key _ (k5_up (by decide) (k5_up (by decide) k5_r)) (fun j hj => ⟨?_, ?_⟩)
    · show am_fi (I 84) 0 20 j = 0
      unfold am_fi; rw [if_pos hj]
    · show am_fi (I 75) 0 20 j = 0
      unfold am_fi; rw [if_pos hj]
  · have hk2 := kc_k5 h5 hk
    refine r_Reviews_knowHands_18 (by omega) ⟨fun c => absurd (hk2.1 ▸ c) (nI_nlt (Nat.le_refl _) (by omega)), fun _ => ?_⟩
    refine am_up (P := fun m => ∀ I', am_k5 I' I → (∀ j, j < 20 → I' 84 j = s_n (s_hP V (nI j) k 0) (am_n V 113 14) ∧ I' 75 j = if j < m then s_hand (V 125) (V 130) (V 131) (V 127) (am_n V 113 14) (nI j) k else s_s (s_hP V (nI j) k 0) (fun s => 100 * V 130 (2 * s)) (am_n V 113 14)) → am_Run am_X0 (am_meth d) 77 R 93 [some (.ref 74), none, some (.int (nI m))] [] (am_mk I' L, 0, 0)) (n := 20) (fun I' h5 hj => ?_) (fun m hm ih I' h5 hj => ?_) I' h5 (fun j q => ⟨(hj j q).1, by rw [(hj j q).2]; rfl⟩)
    · exact r_Reviews_knowHands_93 ⟨fun c => absurd c (by decide), fun _ => h _ _ h5 (fun j q => by rw [(hj j q).2, if_pos q])⟩
    · have hjm := hj m hm
      rw [if_neg (Nat.lt_irrefl m)] at hjm
      have step : ∀ x, x = s_hand (V 125) (V 130) (V 131) (V 127) (am_n V 113 14) (nI m) k → am_Run am_X0 (am_meth d) 77 R 93 [some (.ref 74), none, some (.int (nI (m + 1)))] [] (am_mk (va_up I' 75 (upd (I' 75) m x)) L, 0, 0) := by
        rintro x rfl
        refine ih _ (k5_up (by decide) h5) (fun j q => ⟨(hj j q).1, ?_⟩)
        show upd (I' 75) m _ j = _
        rw [am_uat]
        by_cases e : j = m
        · subst e; rw [if_pos rfl, if_pos (by omega)]
        · rw [if_neg e, (hj j q).2]
          by_cases q2 : j < m
          · rw [if_pos q2, if_pos (by omega)]
          · rw [if_neg q2, if_neg (by omega)]
      refine r_Reviews_knowHands_93 ⟨fun _ => ⟨hm, ?_⟩, fun c => absurd (nI_lt (b := 20) hm (by decide)) c⟩
      rw [hjm.1, hjm.2]
      refine ⟨fun c => ?_, fun c => ⟨c, ?_⟩⟩
      · rintro _ rfl
        refine step _ ?_
        have c' : s_n (fun s => decide (V 125 s = nI m) && s_ct (V 130) (V 131) (V 127) s 0 k) (am_n V 113 14) = 0 := c
        unfold s_hand
        rw [if_pos c']
      · rintro _ rfl
        refine step _ ?_
        have c' : ¬ s_n (fun s => decide (V 125 s = nI m) && s_ct (V 130) (V 131) (V 127) s 0 k) (am_n V 113 14) = 0 := c
        unfold s_hand
        rw [if_neg c', s_s_mul]
        rfl
  · have hk2 := kc_k5 h5 hk
    have h60 : s < 60 := by omega
    have hh := (hv.2.2.2.1.1 s h60).1
    have e79 := hk2.2.2.2.1 s h60
    have e67 : I' 67 = V 125 := hk2.2.1
    refine r_Reviews_knowHands_18 (by omega) ⟨fun _ => ⟨h60, fun c => ⟨h60, am_n V 125 s, hh.2, by rw [e67]; exact hh.1, ?_⟩, fun c => ?_⟩, fun c => absurd (by rw [hk2.1]; exact nI_lt hs (by omega)) c⟩
    · rintro _ rfl
      refine ⟨am_n V 125 s, hh.2, (by rw [← hh.1, ← e67]; rfl), ?_⟩
      rintro _ rfl
      have ct := (hk2.2.2.2.2 s h60).mp c
      refine ih _ (k5_up (by decide) (k5_up (by decide) h5)) (fun j q => ?_)
      have hq := hj j q
      show upd (I' 84) (am_n V 125 s) (I' 84 (am_n V 125 s) + 1) j = _ ∧ upd (I' 75) (am_n V 125 s) (I' 75 (am_n V 125 s) + 100 * I' 79 s) j = _
      rw [am_uat, am_uat]
      by_cases e : j = am_n V 125 s
      · have w : s_hP V (nI j) k 0 s = true := hP_iff.mpr ⟨by rw [e]; exact hh.1, ct⟩
        rw [if_pos e, if_pos e, s_n_t w, s_s_t w, ← e, hq.1, hq.2, e79]
        exact ⟨rfl, rfl⟩
      · have w : ¬ s_hP V (nI j) k 0 s = true := fun z => e (by
          have z1 := (hP_iff.mp z).1
          have hh2 := hh.2
          rw [hh.1, nI_eq (by omega) (by omega)] at z1
          exact z1.symm)
        rw [if_neg e, if_neg e, s_n_f w, s_s_f w]
        exact hq
    · have ct := fun z => c ((hk2.2.2.2.2 s h60).mpr z)
      refine ih _ h5 (fun j q => ?_)
      have w : ¬ s_hP V (nI j) k 0 s = true := fun z => ct (hP_iff.mp z).2
      rw [s_n_f w, s_s_f w]
      exact hj j q
end KN
