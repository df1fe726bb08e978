/-! judge -/
def o_judge (V : am_V) : Int32 × am_V := if s_bar V = 0 then (if V 113 41 = V 113 39 then (s_ver V, w_41 V) else o_no V 3 (-3)) else o_no V (s_bj V) (s_bar V)
theorem Inv_41 {V : am_V} (hv : Inv V) : Inv (w_41 V) := by
  obtain ⟨⟨a1, a2, a3, a4, a5, a6, a7, a8⟩, vt, vk, vs, vx, vr, vp, vd⟩ := hv
  exact ⟨⟨a1, a2, a3, a4, a5, a6, a7, am_ixn (x := 0) rfl (by decide) (by decide)⟩, vt, vk, vs, vx, vr, vp, vd⟩
theorem I_judge {V : am_V} (hv : Inv V) : Inv (o_judge V).2 := by
  unfold o_judge
  split
  · split
    · exact Inv_41 hv
    · exact hv
  · exact hv
section JU
variable {d : Nat} {I V : am_V} {L : Nat → Nat → Int64} {R : am_R}
theorem s_wr_1 {p : Nat} (h : V 147 p = -1) : s_wr V p = false := by unfold s_wr; rw [decide_eq_true h]; rfl
theorem s_wr_k {p q : Nat} (hv : Inv V) (hq : q < am_n V 113 4) (h : V 147 p = nI q) : s_wr V p = (!s_M V q p || s_any (fun q => decide (V 147 q = V 147 p)) p) := by
  have hk := hv.1.2.1
  have hk2 := hk.2
  have e : am_n V 147 p = q := am_n_e h (by omega)
  have n1 : ¬ V 147 p = -1 := fun w => by
    rw [h] at w
    have := nI_pos (n := q) (by omega)
    rw [w] at this; exact this (by decide)
  have n2 : 0 ≤ V 147 p ∧ V 147 p < V 113 4 := by
    rw [h, hk.1]; exact ⟨nI_pos' (by omega), nI_lt hq (by omega)⟩
  unfold s_wr
  rw [decide_eq_false n1, decide_eq_true n2, e]; rfl
theorem s_wr_n {p : Nat} (h1 : ¬ V 147 p = -1) (h2 : ¬ (0 ≤ V 147 p ∧ V 147 p < V 113 4)) : s_wr V p = true := by
  unfold s_wr
  rw [decide_eq_false h1, decide_eq_false h2]; rfl
theorem ok_Ma_left {p : Nat} (hd : 3 ≤ d) (hv : Inv V) (ha : s_alo V = true) (h6 : s_rl V ≤ 6) (hs : w_sv V I) (hl : V 113 41 = V 113 39) (htv : w_tv V) (hp : p < s_rl V) (h1 : s_unr V p = true → R (some (.int 1)) (am_mk I L, 0, 0)) (h0 : s_unr V p = false → R (some (.int 0)) (am_mk I L, 0, 0)) : am_meth d 69 [.ref 106, .ref 97, .int (nI p)] (am_mk I L, 0, 0) R := by
  obtain ⟨d, rfl⟩ : ∃ e, d = e + 1 := ⟨d - 1, by omega⟩
  have hr := rl_12 hv
  have hk := hv.1.2.1
  have hk2 := hk.2
  have hc := hs.1
  obtain ⟨⟨n1, n2, n3, n4, n5, n6, n7, n8⟩, ⟨e1, e2, e3, e4, e5, e6, e7, e8, e9, e10, e11, e12, e13, e14, e15, e16, e17⟩, -⟩ := id hc
  have e97 : I 97 0 = nI (s_rl V) := by rw [n8, hl]; exact hr.1
  have en : I 16 0 = nI (am_n V 113 4) := n1.trans hk.1
  have kd := kds_of hc hv hs.2.1
  refine ar_in rfl rfl rfl (r_Match_wouldBeLeft_0 (by omega) ⟨by omega, by rw [e97]; exact nI_lt hp (by omega), ?_⟩)
  rw [e17]
  unfold s_unr at h1 h0
  refine am_up (P := fun k => s_any (s_un2 V p) k = false → am_Run am_X0 (am_meth d) 69 R 9 [some (.ref 106), some (.ref 97), some (.int (nI p)), some (.int (V 147 p)), some (.int (nI k)), none, none] [] (am_mk I L, 0, 0)) (n := am_n V 113 4) (fun hf => ?_) (fun k hk4 ih hf => ?_) rfl
  · exact r_Match_wouldBeLeft_9 (by omega) ⟨fun c => absurd (en ▸ c) (nI_nlt (Nat.le_refl _) (by omega)), fun _ => h0 hf⟩
  · have k20 : k < 20 := by omega
    have no : s_un2 V p k = false → am_Run am_X0 (am_meth d) 69 R 9 [some (.ref 106), some (.ref 97), some (.int (nI p)), some (.int (V 147 p)), some (.int (nI (k + 1))), none, none] [] (am_mk I L, 0, 0) := fun q => ih (by rw [s_any, hf, q]; rfl)
    have yes : s_un2 V p k = true → R (some (.int 1)) (am_mk I L, 0, 0) := fun q => h1 (s_any_of hk4 q)
    refine r_Match_wouldBeLeft_9 (by omega) ⟨fun _ => ⟨fun c => no (by unfold s_un2; rw [decide_eq_true c.symm]; rfl), fun c => ⟨by omega, by omega, ?_⟩⟩, fun c => absurd (by rw [en]; exact nI_lt hk4 (by omega)) c⟩
    have c' : ¬ V 147 p = nI k := fun q => c q.symm
    rw [hs.2.2.2.2 p hp k (by omega)]
    refine ⟨fun c1 => ?_, fun c1 => no (by unfold s_un2; rw [Bool.eq_false_iff.mpr c1, Bool.false_and, Bool.and_false])⟩
    refine ok_first_told (by omega) e97 h6 (fun v hf2 => ⟨_, _, _, rfl, rfl, ?_⟩)
    rw [e17] at hf2
    have rh := fd_fst hf2
    have vb := hf2.2.1
    -- the stay's side
    have side : s_rh V k p = true → ((V 147 p = -1 → R (some (.int 1)) (am_mk I L, 0, 0)) ∧ (¬ V 147 p = -1 → am_meth d 67 [.ref 106, .int (nI k), .int (V 147 p)] (am_mk I L, 0, 0) (am_ri (fun z I2 L2 => (z = 0 → am_Run am_X0 (am_meth d) 69 R 9 [some (.ref 106), some (.ref 97), some (.int (nI p)), some (.int (V 147 p)), some (.int (nI (k + 1))), none, none] [] (am_mk I2 L2, 0, 0)) ∧ (¬ z = 0 → R (some (.int 1)) (am_mk I2 L2, 0, 0)))))) := by
      intro q
      refine ⟨fun c2 => yes ?_, fun c2 => ?_⟩
      · unfold s_un2 s_ph
        rw [decide_eq_false c', c1, q, decide_eq_true c2]; rfl
      · rcases htv p hp with w | ⟨x, hx, ex⟩
        · exact absurd w c2
        · have nx : am_n V 147 p = x := am_n_e ex (by omega)
          rw [ex]
          refine ok_Ma_prefers (by omega) kd k20 (by omega) (fun c3 => ⟨_, _, _, rfl, rfl, fun z => absurd z (by decide), fun _ => yes ?_⟩) (fun c3 => ⟨_, _, _, rfl, rfl, fun _ => ?_, fun z => absurd rfl z⟩)
          · unfold s_un2 s_ph
            rw [decide_eq_false c', c1, q, nx, c3, Bool.or_true]; rfl
          · have := no (by
              unfold s_un2 s_ph
              rw [nx, c3, decide_eq_false c2]
              simp)
            rw [ex] at this; exact this
    dsimp only
    rw [hs.2.2.1, nI_ltI (by omega) (by omega)]
    refine ⟨fun c2 => ?_, fun c2 => side ?_⟩
    · rw [if_pos c2] at rh
      refine ok_Ma_kp (by omega) hv ha h6 hs k20 hp c2 (fun c3 => ⟨_, _, _, rfl, rfl, fun z => absurd z (by decide), fun _ => side ?_⟩) (fun c3 => ⟨_, _, _, rfl, rfl, fun _ => no ?_, fun z => absurd rfl z⟩)
      · unfold s_rh; rw [rh]; exact c3
      · have : s_rh V k p = false := by unfold s_rh; rw [rh]; exact c3
        unfold s_un2
        rw [this]; simp
    · rw [if_neg c2] at rh
      unfold s_rh; rw [rh]
theorem ok_Ma_verdict (hd : 4 ≤ d) (hv : Inv V) (ha : s_alo V = true) (h6 : s_rl V ≤ 6) (hs : w_sv V I) (hl : V 113 41 = V 113 39) (h : R (some (.int (s_ver V))) (am_mk I L, 0, 0)) : am_meth d 68 [.ref 106, .ref 97] (am_mk I L, 0, 0) R := by
  obtain ⟨d, rfl⟩ : ∃ e, d = e + 1 := ⟨d - 1, by omega⟩
  have hr := rl_12 hv
  have hk := hv.1.2.1
  have hk2 := hk.2
  have hc := hs.1
  have e106 := hs.2.2.1
  obtain ⟨⟨n1, n2, n3, n4, n5, n6, n7, n8⟩, ⟨e1, e2, e3, e4, e5, e6, e7, e8, e9, e10, e11, e12, e13, e14, e15, e16, e17⟩, -⟩ := id hc
  have e97 : I 97 0 = nI (s_rl V) := by rw [n8, hl]; exact hr.1
  refine ar_in rfl rfl rfl (r_Match_verdictOn_0 ?_)
  unfold s_ver at h
  refine am_up (P := fun p => s_f1st (s_wr V) p = none → am_Run am_X0 (am_meth d) 68 R 2 [some (.ref 106), some (.ref 97), some (.int (nI p)), none] [] (am_mk I L, 0, 0)) (n := s_rl V) (fun hf => ?_) (fun p hp ih hf => ?_) rfl
  · refine r_Match_verdictOn_2 (by omega) ⟨fun c => absurd (e106 ▸ c) (nI_nlt (Nat.le_refl _) (by omega)), fun _ => ?_⟩
    rw [hf] at h
    have tv := tv_of hv hf
    refine am_up (P := fun p => s_f1st (s_unr V) p = none → am_Run am_X0 (am_meth d) 68 R 65 [some (.ref 106), some (.ref 97), some (.int (nI p)), none] [] (am_mk I L, 0, 0)) (n := s_rl V) (fun hf2 => ?_) (fun p hp ih hf2 => ?_) rfl
    · refine r_Match_verdictOn_65 ⟨fun c => absurd (e106 ▸ c) (nI_nlt (Nat.le_refl _) (by omega)), fun _ => ?_⟩
      rw [hf2] at h; exact h
    · refine r_Match_verdictOn_65 ⟨fun _ => ?_, fun c => absurd (by rw [e106]; exact nI_lt hp (by omega)) c⟩
      refine ok_Ma_left (by omega) hv ha h6 hs hl tv hp (fun c => ⟨_, _, _, rfl, rfl, fun z => absurd z (by decide), fun _ => ?_⟩) (fun c => ⟨_, _, _, rfl, rfl, fun _ => ih (fd_up hf2 c), fun z => absurd rfl z⟩)
      rw [fd_of hf2 c _ hp] at h; exact h
  · have stop : s_wr V p = true → R (some (.int (nI p))) (am_mk I L, 0, 0) := fun q => by
      rw [fd_of hf q _ hp] at h; exact h
    refine r_Match_verdictOn_2 (by omega) ⟨fun _ => ⟨by omega, by rw [e97]; exact nI_lt hp (by omega), ?_⟩, fun c => absurd (by rw [e106]; exact nI_lt hp (by omega)) c⟩
    rw [e17, n1]
    refine ⟨fun c => ih (fd_up hf (s_wr_1 c)), fun c => ⟨fun c2 => ?_, fun c2 => stop (s_wr_n c c2)⟩⟩
    obtain ⟨q, q1, q2, q3⟩ := ix_k hv c2
    have wk := s_wr_k hv q3 q2
    refine ⟨q, q2, by omega, by omega, ?_⟩
    rw [hs.2.2.2.2 p hp q (by omega)]
    refine ⟨fun c3 => ?_, fun c3 => stop (by rw [wk, Bool.eq_false_iff.mpr c3]; rfl)⟩
    refine ok_first_told (by omega) e97 h6 (fun v hf2 => ⟨_, _, _, rfl, rfl, ?_⟩)
    rw [e17] at hf2
    have vb := hf2.2.1
    dsimp only
    rw [nI_ltI (by omega) (by omega)]
    refine ⟨fun c4 => stop ?_, fun c4 => ih (fd_up hf ?_)⟩
    · rw [wk, s_any_of (P := fun q => decide (V 147 q = V 147 p)) c4 (decide_eq_true (hf2.2.2 (by omega))), Bool.or_true]
    · rw [wk, c3, any_n (fun i hi => decide_eq_false (hf2.1 i (by omega)))]; rfl
theorem C_judge (hd : 9 ≤ d) (hc : RC I V) (hv : Inv V) (h : ∀ I' L', RC I' (o_judge V).2 → am_hi I' I → R (some (.int (o_judge V).1)) (am_mk I' L', 0, 0)) : am_meth d 34 [.ref 0] (am_mk I L, 0, 0) R := by
  obtain ⟨d, rfl⟩ : ∃ e, d = e + 1 := ⟨d - 1, by omega⟩
  have hr := rl_12 hv
  have n7 : I 95 0 = V 113 39 := hc.1.2.2.2.2.2.2.1
  have n8 : I 97 0 = V 113 41 := hc.1.2.2.2.2.2.2.2
  refine ar_in rfl rfl rfl (r_H_judge_0 (by omega) ?_)
  unfold o_judge at h
  refine ok_H_bar (by omega) hc hv ⟨_, _, _, rfl, rfl, fun c => ?_, fun c => ?_⟩
  · rw [if_pos c] at h
    obtain ⟨ha, ho, h6⟩ := bar_0 hv c
    rw [n7, n8]
    refine ⟨fun c1 => ?_, fun c1 => ?_⟩
    · rw [if_pos c1] at h
      refine ok_Ma_survey (by omega) hc hv ha ho h6 (fun I1 L1 g1 g2 => ⟨_, _, rfl, rfl, ?_⟩)
      refine ok_Ma_verdict (by omega) hv ha h6 g1 c1 ⟨_, _, _, rfl, rfl, ?_⟩
      refine h _ _ ?_ (hi_up (by decide) g2)
      obtain ⟨⟨m1, m2, m3, m4, m5, m6, m7, m8⟩, q2, q3, q4, q5, q6⟩ := g1.1
      exact ⟨⟨m1, m2, m3, m4, m5, m6, m7, rfl⟩, q2, q3, q4, q5, q6⟩
    · rw [if_neg c1] at h
      exact ok_refuse (j := 3) (by omega) (by decide) (by decide) ⟨_, _, _, rfl, rfl, h _ _ (RC_no hc) (hi_up (by decide) hi_r)⟩
  · rw [if_neg c] at h
    exact ok_refX (by omega) hc c (fun I' L' a b => ⟨_, _, _, rfl, rfl, h I' L' a b⟩)
/-! the reference -/
theorem ok_M_wrong (hd : 10 ≤ d) (hm : RM I V) (hv : Inv V) (hx : w_Tx V) (ha : s_alo V = true) (h6 : s_rl V ≤ 6) (h : ∀ I' L', RM I' V → am_lo I' I → R (some (.int (am_on (-1) (s_f1st (s_wr V) (s_rl V))))) (am_mk I' L', 0, 0)) : am_meth d 226 [.ref 113] (am_mk I L, 0, 0) R := by
  obtain ⟨d, rfl⟩ : ∃ e, d = e + 1 := ⟨d - 1, by omega⟩
  have hr := rl_12 hv
  have hk := hv.1.2.1
  have hk2 := hk.2
  refine ar_in rfl rfl rfl (r_M_wrong_0 ?_)
  refine am_up (P := fun p => ∀ (I' : am_V) (L' : Nat → Nat → Int64), RM I' V → am_lo I' I → s_f1st (s_wr V) p = none → am_Run am_X0 (am_meth d) 226 R 2 [some (.ref 113), some (.int (nI p)), none, none] [] (am_mk I' L', 0, 0)) (n := s_rl V) (fun I' L' f1 f2 hf => ?_) (fun p hp ih I' L' f1 f2 hf => ?_) I L hm lo_r rfl
  · have en : I' 113 39 = nI (s_rl V) := by rw [f1.2 39 rfl]; exact hr.1
    refine r_M_wrong_2 (by omega) ⟨fun c => absurd (en ▸ c) (nI_nlt (Nat.le_refl _) (by omega)), fun _ => ?_⟩
    have h := h I' L' f1 f2
    rw [hf] at h; exact h
  · have en : I' 113 39 = nI (s_rl V) := by rw [f1.2 39 rfl]; exact hr.1
    have rs := row_s hv ha hp
    have stop : s_wr V p = true → ∀ (I' : am_V) (L' : Nat → Nat → Int64), RM I' V → am_lo I' I → R (some (.int (nI p))) (am_mk I' L', 0, 0) := fun q I' L' a b => by
      have h := h I' L' a b
      rw [fd_of hf q _ hp] at h; exact h
    refine r_M_wrong_2 (by omega) ⟨fun _ => ⟨by omega, ?_⟩, fun c => absurd (by rw [en]; exact nI_lt hp (by omega)) c⟩
    rw [f1.1 147 rfl, f1.2 4 rfl, f1.1 146 rfl, rs.1]
    refine ⟨fun c => ih I' L' f1 f2 (fd_up hf (s_wr_1 c)), fun c => ⟨fun c2 => ?_, fun c2 => stop (s_wr_n c c2) I' L' f1 f2⟩⟩
    obtain ⟨q, q1, q2, q3⟩ := ix_k hv c2
    have wk := s_wr_k hv q3 q2
    rw [q2]
    refine ok_M_whyNot (by omega) f1 hv hx q1 rs.2.1 (fun I3 L3 m3 l3 => ⟨_, _, _, rfl, rfl, fun c3 => ?_, fun c3 => ?_⟩)
    · have l3' : am_lo I3 I := fun c hc => (mf_lo l3 c hc).trans (f2 c hc)
      have sm : s_M V q p = true := by unfold s_M; rw [decide_eq_true q3, decide_eq_true c3]; rfl
      refine am_up (P := fun y => s_any (fun q => decide (V 147 q = V 147 p)) y = false → am_Run am_X0 (am_meth d) 226 R 51 [some (.ref 113), some (.int (nI p)), some (.int (nI q)), some (.int (nI y))] [] (am_mk I3 L3, 0, 0)) (n := p) (fun hf2 => ?_) (fun y hy ih2 hf2 => ?_) rfl
      · refine r_M_wrong_51 ⟨fun z => absurd z (nI_nlt (Nat.le_refl _) (by omega)), fun _ => ih I3 L3 m3 l3' (fd_up hf ?_)⟩
        rw [wk, sm, hf2]; rfl
      · refine r_M_wrong_51 ⟨fun _ => ⟨by omega, ?_⟩, fun z => absurd (nI_lt hy (by omega)) z⟩
        rw [m3.1 147 rfl, ← q2]
        refine ⟨fun z => stop ?_ I3 L3 m3 l3', fun z => ?_⟩
        · rw [wk, s_any_of (P := fun q => decide (V 147 q = V 147 p)) hy (decide_eq_true z), Bool.or_true]
        · have := ih2 (by rw [s_any, hf2, decide_eq_false z]; rfl)
          rw [← q2] at this; exact this
    · refine stop ?_ I3 L3 m3 (fun c hc => (mf_lo l3 c hc).trans (f2 c hc))
      have sm : s_M V q p = false := by unfold s_M; rw [decide_eq_false c3, Bool.and_false]
      rw [wk, sm]; rfl
theorem ok_M_unrest (hd : 10 ≤ d) (hm : RM I V) (hv : Inv V) (hx : w_Tx V) (ha : s_alo V = true) (h6 : s_rl V ≤ 6) (htv : w_tv V) (h : ∀ I' L', RM I' V → am_lo I' I → R (some (.int (am_on (-1) (s_f1st (s_unr V) (s_rl V))))) (am_mk I' L', 0, 0)) : am_meth d 227 [.ref 113] (am_mk I L, 0, 0) R := by
  obtain ⟨d, rfl⟩ : ∃ e, d = e + 1 := ⟨d - 1, by omega⟩
  have hr := rl_12 hv
  have hk := hv.1.2.1
  have hk2 := hk.2
  refine ar_in rfl rfl rfl (r_M_unrest_0 ?_)
  have main : ∀ (I' : am_V) (L' : Nat → Nat → Int64), RM I' V → am_lo I' I → (∀ p, p < s_rl V → I' 149 p = V 147 p) → am_Run am_X0 (am_meth d) 227 R 30 [some (.ref 113), some (.int 0), none] [] (am_mk I' L', 0, 0) := by
    intro I' L' f1 f2 f3
    refine am_up (P := fun p => ∀ (I' : am_V) (L' : Nat → Nat → Int64), RM I' V → am_lo I' I → (∀ p, p < s_rl V → I' 149 p = V 147 p) → s_f1st (s_unr V) p = none → am_Run am_X0 (am_meth d) 227 R 30 [some (.ref 113), some (.int (nI p)), none] [] (am_mk I' L', 0, 0)) (n := s_rl V) (fun I' L' f1 f2 f3 hf => ?_) (fun p hp ih I' L' f1 f2 f3 hf => ?_) I' L' f1 f2 f3 rfl
    · have en : I' 113 39 = nI (s_rl V) := by rw [f1.2 39 rfl]; exact hr.1
      refine r_M_unrest_30 ⟨fun c => absurd (en ▸ c) (nI_nlt (Nat.le_refl _) (by omega)), fun _ => ?_⟩
      have h := h I' L' f1 f2
      rw [hf] at h; exact h
    · have en : I' 113 39 = nI (s_rl V) := by rw [f1.2 39 rfl]; exact hr.1
      have rs := row_s hv ha hp
      refine r_M_unrest_30 ⟨fun _ => ?_, fun c => absurd (by rw [en]; exact nI_lt hp (by omega)) c⟩
      refine am_up (P := fun k => ∀ (I' : am_V) (L' : Nat → Nat → Int64), RM I' V → am_lo I' I → (∀ p, p < s_rl V → I' 149 p = V 147 p) → s_any (s_un2 V p) k = false → am_Run am_X0 (am_meth d) 227 R 40 [some (.ref 113), some (.int (nI p)), some (.int (nI k))] [] (am_mk I' L', 0, 0)) (n := am_n V 113 4) (fun I' L' f1 f2 f3 hf2 => ?_) (fun k hk4 ih2 I' L' f1 f2 f3 hf2 => ?_) I' L' f1 f2 f3 rfl
      · have en : I' 113 4 = nI (am_n V 113 4) := by rw [f1.2 4 rfl]; exact hk.1
        exact r_M_unrest_40 ⟨fun c => absurd (en ▸ c) (nI_nlt (Nat.le_refl _) (by omega)), fun _ => ih I' L' f1 f2 f3 (fd_up hf hf2)⟩
      · have en : I' 113 4 = nI (am_n V 113 4) := by rw [f1.2 4 rfl]; exact hk.1
        have k20 : k < 20 := by omega
        have no : s_un2 V p k = false → ∀ (I' : am_V) (L' : Nat → Nat → Int64), RM I' V → am_lo I' I → (∀ p, p < s_rl V → I' 149 p = V 147 p) → am_Run am_X0 (am_meth d) 227 R 40 [some (.ref 113), some (.int (nI p)), some (.int (nI (k + 1)))] [] (am_mk I' L', 0, 0) := fun q I' L' a b c => ih2 I' L' a b c (by rw [s_any, hf2, q]; rfl)
        have yes : s_un2 V p k = true → ∀ (I' : am_V) (L' : Nat → Nat → Int64), RM I' V → am_lo I' I → R (some (.int (nI p))) (am_mk I' L', 0, 0) := fun q I' L' a b => by
          have h := h I' L' a b
          rw [fd_of hf (s_any_of hk4 q) _ hp] at h; exact h
        refine r_M_unrest_40 ⟨fun _ => ⟨by omega, ?_⟩, fun c => absurd (by rw [en]; exact nI_lt hk4 (by omega)) c⟩
        rw [f3 p hp, f1.1 146 rfl, rs.1]
        refine ⟨fun c => no (by unfold s_un2; rw [decide_eq_true c]; rfl) I' L' f1 f2 f3, fun c => ?_⟩
        refine ok_M_whyNot (by omega) f1 hv hx k20 rs.2.1 (fun I3 L3 m3 l3 => ⟨_, _, _, rfl, rfl, fun c3 => ?_, fun c3 => ?_⟩)
        · have l3' : am_lo I3 I := fun c hc => (mf_lo l3 c hc).trans (f2 c hc)
          have f3' : ∀ p, p < s_rl V → I3 149 p = V 147 p := fun p hp => by rw [l3 149 (by omega)]; exact f3 p hp
          have sm : s_M V k p = true := by unfold s_M; rw [decide_eq_true hk4, decide_eq_true c3]; rfl
          have side : s_ph V k p = true → am_meth d 219 [.ref 113, .int (nI k)] (am_mk I3 L3, 0, 0) (am_ri (fun z12 I13 L14 => am_meth d 221 [.ref 113, .int (nI k), .int (nI p), .int z12] (am_mk I13 L14, 0, 0) (am_ri (fun z15 I16 L17 => (z15 = 0 → am_Run am_X0 (am_meth d) 227 R 40 [some (.ref 113), some (.int (nI p)), some (.int (nI (k + 1)))] [] (am_mk I16 L17, 0, 0)) ∧ (¬ z15 = 0 → R (some (.int (nI p))) (am_mk I16 L17, 0, 0)))))) := by
            intro q
            refine ok_M_holds (by omega) m3 hv h6 (fun w => ⟨_, _, _, rfl, rfl, ?_⟩) (fun y hy w1 w2 => ⟨_, _, _, rfl, rfl, ?_⟩)
            · refine ok_M_rather0 (by omega) (by decide) ⟨_, _, _, rfl, rfl, fun z => absurd z (by decide), fun _ => yes ?_ I3 L3 m3 l3'⟩
              have rh : s_rh V k p = true := by
                unfold s_rh
                rw [fd_fst (v := s_rl V) ⟨fun j hj z => w j hj (by rw [f3' j hj]; exact z), Nat.le_refl _, fun z => absurd z (Nat.lt_irrefl _)⟩, if_neg (Nat.lt_irrefl _)]
              unfold s_un2
              rw [decide_eq_false c, sm, q, rh]; rfl
            · have rh : s_rh V k p = s_kp V k p y := by
                unfold s_rh
                rw [fd_fst (v := y) ⟨fun j hj z => w2 j hj (by rw [f3' j (by omega)]; exact z), by omega, fun _ => by rw [← f3' y hy]; exact w1⟩, if_pos hy]
              refine ok_M_rather (by omega) m3 hv ha k20 hp hy (fun z => ⟨_, _, _, rfl, rfl, fun z => absurd z (by decide), fun _ => yes ?_ I3 L3 m3 l3'⟩) (fun z => ⟨_, _, _, rfl, rfl, fun _ => no ?_ I3 L3 m3 l3' f3', fun z => absurd rfl z⟩)
              · unfold s_un2
                rw [decide_eq_false c, sm, q, rh, z]; rfl
              · unfold s_un2
                rw [rh, z]; simp
          rw [f3' p hp]
          rcases htv p hp with w | ⟨x, hx2, ex⟩
          · rw [w]
            refine ok_M_prefers0 (by omega) (by decide) ⟨_, _, _, rfl, rfl, fun z => absurd z (by decide), fun _ => side ?_⟩
            unfold s_ph; rw [decide_eq_true w]; rfl
          · have nx : am_n V 147 p = x := am_n_e ex (by omega)
            have n1 : ¬ V 147 p = -1 := fun w => by
              rw [ex] at w
              have := nI_pos (n := x) (by omega)
              rw [w] at this; exact this (by decide)
            rw [ex]
            refine ok_M_prefers (by omega) m3 hv k20 (by omega) (fun z => ⟨_, _, _, rfl, rfl, fun z => absurd z (by decide), fun _ => side ?_⟩) (fun z => ⟨_, _, _, rfl, rfl, fun _ => no ?_ I3 L3 m3 l3' f3', fun z => absurd rfl z⟩)
            · unfold s_ph; rw [nx, z, Bool.or_true]
            · unfold s_un2 s_ph
              rw [nx, z, decide_eq_false n1]; simp
        · have sm : s_M V k p = false := by unfold s_M; rw [decide_eq_false c3, Bool.and_false]
          exact no (by unfold s_un2; rw [sm, Bool.false_and, Bool.and_false]) I3 L3 m3 (fun c hc => (mf_lo l3 c hc).trans (f2 c hc)) (fun p hp => by rw [l3 149 (by omega)]; exact f3 p hp)
  refine am_up (P := fun p => ∀ (I' : am_V), RM I' V → am_lo I' I → (∀ y, y < p → I' 149 y = V 147 y) → am_Run am_X0 (am_meth d) 227 R 2 [some (.ref 113), some (.int (nI p)), none] [] (am_mk I' L, 0, 0)) (n := s_rl V) (fun I' f1 f2 f3 => ?_) (fun p hp ih I' f1 f2 f3 => ?_) I hm lo_r (fun y hy => absurd hy (Nat.not_lt_zero y))
  · have en : I' 113 39 = nI (s_rl V) := by rw [f1.2 39 rfl]; exact hr.1
    exact r_M_unrest_2 ⟨fun c => absurd (en ▸ c) (nI_nlt (Nat.le_refl _) (by omega)), fun _ => main I' L f1 f2 f3⟩
  · have en : I' 113 39 = nI (s_rl V) := by rw [f1.2 39 rfl]; exact hr.1
    refine r_M_unrest_2 ⟨fun _ => ⟨by omega, ?_⟩, fun c => absurd (by rw [en]; exact nI_lt hp (by omega)) c⟩
    rintro _ rfl
    refine ih _ (RM_s (by decide) (by decide) f1) (lo_up (by decide) f2) (fun y hy => ?_)
    show upd (I' 149) p (I' 147 p) y = _
    by_cases e : y = p
    · rw [e, upd_at, f1.1 147 rfl]
    · rw [upd_ne e]; exact f3 y (by omega)
theorem f1_lt {S : Nat → Bool} : ∀ {n j : Nat}, s_f1st S n = some j → j < n
  | 0, _, h => nomatch h
  | n + 1, j, h => by
    unfold s_f1st at h
    cases e : s_f1st S n with
    | some p => rw [e] at h; cases h; have := f1_lt e; omega
    | none =>
      rw [e] at h
      simp only [] at h
      split at h
      · cases h; omega
      · cases h
theorem M_judge (hd : 11 ≤ d) (hx : w_Tx V) (hm : RM I V) (hv : Inv V) (h : ∀ I' L', RM I' (o_judge V).2 → am_lo I' I → R (some (.int (o_judge V).1)) (am_mk I' L', 0, 0)) : am_meth d 225 [.ref 113] (am_mk I L, 0, 0) R := by
  obtain ⟨d, rfl⟩ : ∃ e, d = e + 1 := ⟨d - 1, by omega⟩
  have hr := rl_12 hv
  have n7 : I 113 39 = V 113 39 := hm.2 39 rfl
  have n8 : I 113 41 = V 113 41 := hm.2 41 rfl
  refine ar_in rfl rfl rfl (r_M_judge_0 ?_)
  unfold o_judge at h
  refine ok_M_bars (by omega) hm hv ⟨_, _, _, rfl, rfl, fun c => ?_, fun c => ?_⟩
  · have c0 : ¬ s_bar V = 0 := fun e => by rw [e] at c; exact absurd c (by decide)
    rw [if_neg c0] at h
    exact ok_noX (by omega) hm c0 (fun I' L' a b => ⟨_, _, _, rfl, rfl, h I' L' a b⟩)
  · have c0 : s_bar V = 0 := by
      rcases Classical.em (s_bar V = 0) with q | q
      · exact q
      · exact absurd (bar_n q).2.2 c
    rw [if_pos c0] at h
    obtain ⟨ha, ho, h6⟩ := bar_0 hv c0
    rw [n7, n8]
    refine ⟨fun c1 => ?_, fun c1 => ?_⟩
    · rw [if_pos c1] at h
      rintro _ rfl
      have m1 : RM (va_up I 113 (upd (I 113) 41 0)) (w_41 V) := RM_f rfl hm
      have hv1 := Inv_41 hv
      have lo1 : am_lo (va_up I 113 (upd (I 113) 41 0)) I := lo_up (by decide) lo_r
      have h : ∀ I' L', RM I' (w_41 V) → am_lo I' I → R (some (.int (s_ver (w_41 V)))) (am_mk I' L', 0, 0) := fun I' L' a b => by rw [ver_41]; exact h I' L' a b
      unfold s_ver at h
      refine ok_M_wrong (V := w_41 V) (by omega) m1 hv1 hx ha h6 (fun I2 L2 a2 b2 => ⟨_, _, _, rfl, rfl, ?_⟩)
      have b2' : am_lo I2 I := fun c hc => (b2 c hc).trans (lo1 c hc)
      cases e : s_f1st (s_wr (w_41 V)) (s_rl (w_41 V)) with
      | some p =>
        have pl := f1_lt e
        have pl : p < s_rl V := pl
        rw [e] at h
        exact ⟨fun z => absurd z (nI_pos (n := p) (by omega)), fun _ => h I2 L2 a2 b2'⟩
      | none =>
        rw [e] at h
        refine ⟨fun _ => ?_, fun z => absurd (show (-1 : Int32) < 0 by decide) z⟩
        refine ok_M_unrest (V := w_41 V) (by omega) a2 hv1 hx ha h6 (tv_of hv1 e) (fun I3 L3 a3 b3 => ⟨_, _, _, rfl, rfl, ?_⟩)
        have b3' : am_lo I3 I := fun c hc => (b3 c hc).trans (b2' c hc)
        cases e2 : s_f1st (s_unr (w_41 V)) (s_rl (w_41 V)) with
        | some p =>
          have pl := f1_lt e2
          have pl : p < s_rl V := pl
          rw [e2] at h
          exact ⟨fun z => absurd z (nI_pos (n := p) (by omega)), fun _ => h I3 L3 a3 b3'⟩
        | none =>
          rw [e2] at h
          exact ⟨fun _ => h I3 L3 a3 b3', fun z => absurd (show (-1 : Int32) < 0 by decide) z⟩
    · rw [if_neg c1] at h
      exact ok_no (j := 3) (by omega) (by decide) (by decide) ⟨_, _, _, rfl, rfl, h _ _ (RM_no hm) (lo_up (by decide) lo_r)⟩
end JU
