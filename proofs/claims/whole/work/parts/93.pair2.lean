/-! pairs: the class's and the reference's rounds; the calls -/
def w_mp (V I : am_V) (st : s_St) : Prop := w_pv V I ∧ (∀ p, p < s_rl V → I 149 p = am_on (-1) (st.1 p)) ∧ ∀ k, k < am_n V 113 4 → ∀ p, p < s_rl V → am_bt (I 150 k) p = st.2 k p
def o_pair (V : am_V) (x : Int32) : Int32 × am_V := if s_bar V = 0 then (if 0 ≤ x ∧ x < V 113 39 then (am_on (-9) ((s_itr V 121 s_s0).1 x.toNatClampNeg), V) else o_no V 2 (-2)) else o_no V (s_bj V) (s_bar V)
theorem I_pair {V : am_V} {x : Int32} (hv : Inv V) : Inv (o_pair V x).2 := by
  unfold o_pair
  split
  · split
    · exact hv
    · exact hv
  · exact hv
section PR
variable {d : Nat} {I V : am_V} {L : Nat → Nat → Int64} {R : am_R}
theorem ok_Ma_pairs (hd : 5 ≤ d) (hv : Inv V) (ha : s_alo V = true) (h6 : s_rl V ≤ 6) (hs : w_sv V I) (h : ∀ I' L', RC I' V → am_hi I' I → (∀ p, p < s_rl V → I' 107 p = am_on (-9) ((s_itr V 121 s_s0).1 p)) → R none (am_mk I' L', 0, 0)) : am_meth d 61 [.ref 106] (am_mk I L, 0, 0) R := by
  obtain ⟨d, rfl⟩ : ∃ e, d = e + 1 := ⟨d - 1, by omega⟩
  have hk := hv.1.2.1
  have hk2 := hk.2
  refine ar_in rfl rfl rfl (r_Match_makePairs_0 ?_)
  refine ok_fill (n := 6) (f := I 107) (by omega) mk_107 (by decide) ⟨va_up I 107 (am_fi (I 107) (-9) 6), L, rfl, congrArg (fun z => (z, 0, 0)) mk_s107, ?_⟩
  refine ok_fill (n := 20) (f := I 110) (by omega) mk_110 (by decide) ⟨va_up (va_up I 107 (am_fi (I 107) (-9) 6)) 110 (am_fi (I 110) 0 20), L, rfl, congrArg (fun z => (z, 0, 0)) mk_s110, ?_⟩
  have go : ∀ f r (I' : am_V) (L' : Nat → Nat → Int64) (st : s_St), r + f = 121 → w_cp V I' st → w_J V st → am_hi I' I → (∀ I' L', RC I' V → am_hi I' I → (∀ p, p < s_rl V → I' 107 p = am_on (-9) ((s_itr V f st).1 p)) → R none (am_mk I' L', 0, 0)) → am_Run am_X0 (am_meth d) 61 R 19 [some (.ref 106), some (.int (nI r)), none, none, none] [] (am_mk I' L', 0, 0) := by
    intro f
    induction f with
    | zero =>
      intro r I' L' st hr f1 f2 f3 K
      have : r = 121 := by omega
      subst this
      exact r_Match_makePairs_19 ⟨fun c => absurd c (by decide), fun _ => K I' L' f1.1.1 f3 f1.2.1⟩
    | succ f ihf =>
      intro r I' L' st hr f1 f2 f3 K
      refine r_Match_makePairs_19 ⟨fun _ => ?_, fun c => absurd (nI_le (b := 120) (by omega) (by decide)) c⟩
      refine am_up (P := fun k => ∀ (I' : am_V) (L' : Nat → Nat → Int64), w_cp V I' (s_rd V k st).1 → am_hi I' I → am_Run am_X0 (am_meth d) 61 R 29 [some (.ref 106), some (.int (nI r)), some (.int (if (s_rd V k st).2 = true then 1 else 0)), some (.int (nI k)), none] [] (am_mk I' L', 0, 0)) (n := am_n V 113 4) (fun I' L' g1 g2 => ?_) (fun k hk4 ih I' L' g1 g2 => ?_) I' L' f1 f3
      · have en : I' 16 0 = nI (am_n V 113 4) := by rw [g1.1.1.1.1]; exact hk.1
        refine r_Match_makePairs_29 ⟨fun c => absurd (en ▸ c) (nI_nlt (Nat.le_refl _) (by omega)), fun _ => ?_⟩
        unfold s_itr at K
        by_cases q : (s_rd V (am_n V 113 4) st).2 = true
        · rw [if_pos q] at K ⊢
          exact ⟨fun z => absurd z (by decide), fun _ => ihf (r + 1) I' L' _ (by omega) g1 (J_rd f2 _ (Nat.le_refl _)) g2 K⟩
        · rw [if_neg q] at K ⊢
          exact ⟨fun _ => K I' L' g1.1.1 g2 g1.2.1, fun z => absurd rfl z⟩
      · have en : I' 16 0 = nI (am_n V 113 4) := by rw [g1.1.1.1.1]; exact hk.1
        have k20 : k < 20 := by omega
        have J := J_rd f2 k (by omega)
        refine r_Match_makePairs_29 ⟨fun _ => ?_, fun c => absurd (by rw [en]; exact nI_lt hk4 (by omega)) c⟩
        have same : s_sk V k (s_rd V k st).1 = ((s_rd V k st).1, false) → ∀ (I2 : am_V) (L2 : Nat → Nat → Int64), w_cp V I2 (s_rd V k st).1 → am_hi I2 I → am_Run am_X0 (am_meth d) 61 R 29 [some (.ref 106), some (.int (nI r)), some (.int (if (s_rd V k st).2 = true then 1 else 0)), some (.int (nI (k + 1))), none] [] (am_mk I2 L2, 0, 0) := fun e I2 L2 a b => by
          have := ih I2 L2
          simp only [s_rd, e, Bool.or_false] at this
          exact this a b
        refine ok_Ma_hasPlace (by omega) hv h6 g1 J k20 (fun c => ⟨_, _, _, rfl, rfl, fun z => absurd z (by decide), fun _ => ?_⟩) (fun c => ⟨_, _, _, rfl, rfl, fun _ => ?_, fun z => absurd rfl z⟩)
        · exact same (by unfold s_sk; rw [if_pos c]) I' L' g1 g2
        · refine ok_Ma_best (by omega) hv ha h6 g1 k20 c ⟨_, _, _, rfl, rfl, ?_⟩
          have cn : ¬ s_hp V (s_rd V k st).1 k = true := by rw [c]; decide
          cases e : s_nx (fun p => s_M V k p && !(s_rd V k st).1.2 k p) (s_kp V k) (s_rl V) with
          | none =>
            exact ⟨fun _ => same (by unfold s_sk; rw [if_neg cn, e]) I' L' g1 g2, fun z => absurd rfl z⟩
          | some p =>
            have nl := nx_lt e
            refine ⟨fun z => absurd z (on_ne (by omega)), fun _ => ?_⟩
            have hA : (s_rd V k st).1.2 k p = false := by
              have := nl.2
              rcases q : (s_rd V k st).1.2 k p with _ | _
              · rfl
              · rw [q] at this; simp at this
            refine ok_Ma_ask (by omega) hv h6 g1 J hk4 nl.1 c hA (fun I2 w1 w2 => ⟨_, _, rfl, rfl, ?_⟩)
            have ee : s_sk V k (s_rd V k st).1 = (s_ak V k (s_rd V k st).1 p, true) := by unfold s_sk; rw [if_neg cn, e]
            have := ih I2 L'
            simp only [s_rd, ee, Bool.or_true, if_true] at this
            exact this w1 (fun x hx => (w2 x (by omega) (by omega)).trans (g2 x hx))
  refine go 121 0 _ L s_s0 rfl ⟨sv_up hs (fun c h1 h2 => by rw [am_vat, if_neg h2, am_vat, if_neg h1]), fun p hp => ?_, fun k hk p hp => ?_⟩ J_0 (hi_up (by decide) (hi_up (by decide) hi_r)) h
  · show am_fi (I 107) (-9) 6 p = -9
    exact if_pos (by omega)
  · show am_bt (am_fi (I 110) 0 20 k) p = _
    rw [show am_fi (I 110) 0 20 k = 0 from if_pos hk, bt_0]; rfl
theorem ok_refX (hd : 1 ≤ d) (hc : RC I V) (h0 : ¬ s_bar V = 0) (h : ∀ I' L', RC I' (o_no V (s_bj V) (s_bar V)).2 → am_hi I' I → R (some (.int (s_bar V))) (am_mk I' L', 0, 0)) : am_meth d 2 [.ref 0, .int (s_bar V)] (am_mk I L, 0, 0) R := by
  have b := bar_n h0
  exact ok_refuse hd b.1 b.2.1 (h _ _ (RC_no hc) (hi_up (by decide) hi_r))
theorem ok_noX (hd : 1 ≤ d) (hm : RM I V) (h0 : ¬ s_bar V = 0) (h : ∀ I' L', RM I' (o_no V (s_bj V) (s_bar V)).2 → am_lo I' I → R (some (.int (s_bar V))) (am_mk I' L', 0, 0)) : am_meth d 151 [.ref 113, .int (s_bar V)] (am_mk I L, 0, 0) R := by
  have b := bar_n h0
  exact ok_no hd b.1 b.2.1 (h _ _ (RM_no hm) (lo_up (by decide) lo_r))
theorem C_pair {x : Int32} (hd : 9 ≤ d) (hc : RC I V) (hv : Inv V) (h : ∀ I' L', RC I' (o_pair V x).2 → am_hi I' I → R (some (.int (o_pair V x).1)) (am_mk I' L', 0, 0)) : am_meth d 31 [.ref 0, .int x] (am_mk I L, 0, 0) R := by
  obtain ⟨d, rfl⟩ : ∃ e, d = e + 1 := ⟨d - 1, by omega⟩
  have hr := rl_12 hv
  have n7 : I 95 0 = V 113 39 := hc.1.2.2.2.2.2.2.1
  refine ar_in rfl rfl rfl (r_H_pair_0 ?_)
  unfold o_pair at h
  refine ok_H_bar (by omega) hc hv ⟨_, _, _, rfl, rfl, fun c => ?_, fun c => ?_⟩
  · rw [if_pos c] at h
    obtain ⟨ha, ho, h6⟩ := bar_0 hv c
    rw [n7]
    refine ⟨fun c1 => ?_, fun c1 => ⟨fun c2 => ?_, fun c2 => ?_⟩⟩
    · rw [if_neg (fun z => absurd c1 (Int32.not_lt.mpr z.1))] at h
      exact ok_refuse (j := 2) (by omega) (by decide) (by decide) ⟨_, _, _, rfl, rfl, h _ _ (RC_no hc) (hi_up (by decide) hi_r)⟩
    · rw [if_pos ⟨Int32.not_lt.mp c1, c2⟩] at h
      rw [hr.1] at c2
      obtain ⟨p, hp, rfl⟩ := am_nat (x := x) ⟨Int32.not_lt.mp c1, c2⟩ (by omega)
      rw [nI_clamp (by omega)] at h
      refine ok_Ma_survey (by omega) hc hv ha ho h6 (fun I1 L1 g1 g2 => ⟨_, _, rfl, rfl, ?_⟩)
      refine ok_Ma_pairs (by omega) hv ha h6 g1 (fun I2 L2 w1 w2 w3 => ⟨_, _, rfl, rfl, p, by omega, rfl, ?_⟩)
      rw [w3 p hp]
      exact h I2 L2 w1 (fun c hc => (w2 c hc).trans (g2 c hc))
    · rw [if_neg (fun z => c2 z.2)] at h
      exact ok_refuse (j := 2) (by omega) (by decide) (by decide) ⟨_, _, _, rfl, rfl, h _ _ (RC_no hc) (hi_up (by decide) hi_r)⟩
  · rw [if_neg c] at h
    exact ok_refX (by omega) hc c (fun I' L' a b => ⟨_, _, _, rfl, rfl, h I' L' a b⟩)
/-! the reference -/
theorem ok_M_holds {k : Nat} (hd : 1 ≤ d) (hm : RM I V) (hv : Inv V) (h6 : s_rl V ≤ 6) (h0 : (∀ p, p < s_rl V → ¬ I 149 p = nI k) → R (some (.int (-1))) (am_mk I L, 0, 0)) (h1 : ∀ p, p < s_rl V → I 149 p = nI k → (∀ q, q < p → ¬ I 149 q = nI k) → R (some (.int (nI p))) (am_mk I L, 0, 0)) : am_meth d 219 [.ref 113, .int (nI k)] (am_mk I L, 0, 0) R := by
  obtain ⟨d, rfl⟩ : ∃ e, d = e + 1 := ⟨d - 1, by omega⟩
  have hr := rl_12 hv
  have en : I 113 39 = nI (s_rl V) := by rw [hm.2 39 rfl]; exact hr.1
  refine ar_in rfl rfl rfl (r_M_holds_0 ?_)
  refine am_up (P := fun p => (∀ q, q < p → ¬ I 149 q = nI k) → am_Run am_X0 (am_meth d) 219 R 2 [some (.ref 113), some (.int (nI k)), some (.int (nI p))] [] (am_mk I L, 0, 0)) (n := s_rl V) (fun hf => ?_) (fun p hp ih hf => ?_) (fun q hq => absurd hq (Nat.not_lt_zero q))
  · exact r_M_holds_2 ⟨fun c => absurd (en ▸ c) (nI_nlt (Nat.le_refl _) (by omega)), fun _ => h0 hf⟩
  · refine r_M_holds_2 ⟨fun _ => ⟨by omega, fun c => h1 p hp c hf, fun c => ih (fun q hq => ?_)⟩, fun c => absurd (by rw [en]; exact nI_lt hp (by omega)) c⟩
    by_cases e : q = p
    · subst e; exact c
    · exact hf q (by omega)
theorem ok_M_next {k : Nat} {st : s_St} (hd : 4 ≤ d) (hv : Inv V) (ha : s_alo V = true) (h6 : s_rl V ≤ 6) (hs : w_mp V I st) (hk : k < am_n V 113 4) (h : R (some (.int (am_on (-1) (s_nx (fun p => s_M V k p && !st.2 k p) (s_kp V k) (s_rl V))))) (am_mk I L, 0, 0)) : am_meth d 220 [.ref 113, .int (nI k)] (am_mk I L, 0, 0) R := by
  obtain ⟨d, rfl⟩ : ∃ e, d = e + 1 := ⟨d - 1, by omega⟩
  have hr := rl_12 hv
  have hk2 := hv.1.2.1.2
  have en : I 113 39 = nI (s_rl V) := by rw [hs.1.1.2 39 rfl]; exact hr.1
  refine ar_in rfl rfl rfl (r_M_nextPlace_0 ?_)
  refine am_up (P := fun p => am_Run am_X0 (am_meth d) 220 R 4 [some (.ref 113), some (.int (nI k)), some (.int (am_on (-1) (s_nx (fun p => s_M V k p && !st.2 k p) (s_kp V k) p))), some (.int (nI p))] [] (am_mk I L, 0, 0)) (n := s_rl V) ?_ (fun p hp ih => ?_)
  · exact r_M_nextPlace_4 ⟨fun c => absurd (en ▸ c) (nI_nlt (Nat.le_refl _) (by omega)), fun _ => h⟩
  · refine r_M_nextPlace_4 ⟨fun _ => ⟨by omega, ?_⟩, fun c => absurd (by rw [en]; exact nI_lt hp (by omega)) c⟩
    rw [bt_t (by omega), bt_f (by omega), hs.2.2 k hk p hp, hs.1.2.1 k hk p hp]
    simp only [s_nx] at ih
    have skip : (s_M V k p && !st.2 k p) = false → am_Run am_X0 (am_meth d) 220 R 4 [some (.ref 113), some (.int (nI k)), some (.int (am_on (-1) (s_nx (fun p => s_M V k p && !st.2 k p) (s_kp V k) p))), some (.int (nI (p + 1)))] [] (am_mk I L, 0, 0) := fun q => by
      rw [if_neg (by rw [q]; decide)] at ih; exact ih
    refine ⟨fun c => skip (by rw [c, Bool.not_true, Bool.and_false]), fun c => ⟨fun c2 => skip (by rw [c2]; rfl), fun c2 => ?_⟩⟩
    have c := Bool.eq_false_iff.mpr c
    have c2 := am_bnf c2
    rw [if_pos (by rw [c, c2]; rfl)] at ih
    revert ih
    cases e : s_nx (fun p => s_M V k p && !st.2 k p) (s_kp V k) p with
    | none => exact fun ih => ok_M_rather0 (by omega) (by decide) ⟨_, _, _, rfl, rfl, fun w => absurd w (by decide), fun _ => ih⟩
    | some q =>
      have ql := (nx_lt e).1
      intro ih
      refine ok_M_rather (by omega) hs.1.1 hv ha (by omega) hp (by omega) (fun z => ⟨_, _, _, rfl, rfl, fun w => absurd w (by decide), fun _ => ?_⟩) (fun z => ⟨_, _, _, rfl, rfl, fun _ => ?_, fun w => absurd rfl w⟩)
      · simp only [if_pos z] at ih; exact ih
      · simp only [if_neg (show ¬ s_kp V k p q = true by rw [z]; decide)] at ih; exact ih
theorem pv_up {I' : am_V} (h : w_pv V I) (hc : ∀ c, c ≠ 149 → c ≠ 150 → I' c = I c) : w_pv V I' := by
  obtain ⟨a, b, c⟩ := h
  refine ⟨⟨fun x hx => ?_, fun j hj => ?_⟩, fun k hk => ?_, fun k hk => ?_⟩
  · rw [hc x (by simp only [am_pc, decide_eq_true_eq] at hx; omega) (by simp only [am_pc, decide_eq_true_eq] at hx; omega)]; exact a.1 x hx
  · rw [hc 113 (by decide) (by decide)]; exact a.2 j hj
  · rw [hc 153 (by decide) (by decide)]; exact b k hk
  · rw [hc 154 (by decide) (by decide)]; exact c k hk
theorem ok_M_pairs (hd : 10 ≤ d) (hm : RM I V) (hv : Inv V) (hx : w_Tx V) (ha : s_alo V = true) (h6 : s_rl V ≤ 6) (h : ∀ I' L', RM I' V → am_lo I' I → (∀ p, p < s_rl V → I' 149 p = am_on (-1) ((s_itr V 121 s_s0).1 p)) → w_J V (s_itr V 121 s_s0) → R none (am_mk I' L', 0, 0)) : am_meth d 216 [.ref 113] (am_mk I L, 0, 0) R := by
  obtain ⟨d, rfl⟩ : ∃ e, d = e + 1 := ⟨d - 1, by omega⟩
  have hk := hv.1.2.1
  have hk2 := hk.2
  refine ar_in rfl rfl rfl (r_M_makePairs_0 ?_)
  refine ok_M_prepare (by omega) hm hv hx ha h6 (fun I1 L1 p1 p2 => ⟨_, _, rfl, rfl, ?_⟩)
  have lo1 : am_lo I1 I := pf_lo p2
  have go : ∀ f (I' : am_V) (L' : Nat → Nat → Int64) (st : s_St), 121 ≤ s_nA st + f → w_mp V I' st → w_J V st → am_lo I' I → (∀ I' L', RM I' V → am_lo I' I → (∀ p, p < s_rl V → I' 149 p = am_on (-1) ((s_itr V f st).1 p)) → w_J V (s_itr V f st) → R none (am_mk I' L', 0, 0)) → am_Run am_X0 (am_meth d) 216 R 50 [some (.ref 113), some (.int 1), none, none] [] (am_mk I' L', 0, 0) := by
    intro f
    induction f with
    | zero =>
      intro I' L' st hr f1 f2 f3 K
      have := nA_le st
      omega
    | succ f ihf =>
      intro I' L' st hr f1 f2 f3 K
      refine r_M_makePairs_50 ⟨fun c => absurd c (by decide), fun _ => ?_⟩
      refine am_up (P := fun k => ∀ (I' : am_V) (L' : Nat → Nat → Int64), w_mp V I' (s_rd V k st).1 → am_lo I' I → am_Run am_X0 (am_meth d) 216 R 58 [some (.ref 113), some (.int (if (s_rd V k st).2 = true then 1 else 0)), some (.int (nI k)), none] [] (am_mk I' L', 0, 0)) (n := am_n V 113 4) (fun I' L' g1 g2 => ?_) (fun k hk4 ih I' L' g1 g2 => ?_) I' L' f1 f3
      · have en : I' 113 4 = nI (am_n V 113 4) := by rw [g1.1.1.2 4 rfl]; exact hk.1
        refine r_M_makePairs_58 ⟨fun c => absurd (en ▸ c) (nI_nlt (Nat.le_refl _) (by omega)), fun _ => ?_⟩
        unfold s_itr at K
        have J := J_rd f2 _ (Nat.le_refl _)
        have nA := rd_nA (V := V) (st := st) h6 (am_n V 113 4) (by omega)
        by_cases q : (s_rd V (am_n V 113 4) st).2 = true
        · rw [if_pos q] at K ⊢
          have := nA.2 q
          exact ihf I' L' _ (by omega) g1 J g2 K
        · rw [if_neg q] at K ⊢
          exact r_M_makePairs_50 ⟨fun _ => K I' L' g1.1.1 g2 g1.2.1 J, fun z => absurd rfl z⟩
      · have en : I' 113 4 = nI (am_n V 113 4) := by rw [g1.1.1.2 4 rfl]; exact hk.1
        have k20 : k < 20 := by omega
        have J := J_rd f2 k (by omega)
        refine r_M_makePairs_58 ⟨fun _ => ?_, fun c => absurd (by rw [en]; exact nI_lt hk4 (by omega)) c⟩
        have same : s_sk V k (s_rd V k st).1 = ((s_rd V k st).1, false) → ∀ (I2 : am_V) (L2 : Nat → Nat → Int64), w_mp V I2 (s_rd V k st).1 → am_lo I2 I → am_Run am_X0 (am_meth d) 216 R 58 [some (.ref 113), some (.int (if (s_rd V k st).2 = true then 1 else 0)), some (.int (nI (k + 1))), none] [] (am_mk I2 L2, 0, 0) := fun e I2 L2 a b => by
          have := ih I2 L2
          simp only [s_rd, e, Bool.or_false] at this
          exact this a b
        have onk : ∀ p, p < s_rl V → (I' 149 p = nI k ↔ (s_rd V k st).1.1 p = some k) := fun p hp => by
          rw [g1.2.1 p hp, on_k (by decide) (by omega) (J_1000 hv J p)]
        refine ok_M_holds (by omega) g1.1.1 hv h6 (fun c => ⟨_, _, _, rfl, rfl, fun _ => ?_, fun z => absurd (show (-1 : Int32) < 0 by decide) z⟩) (fun p hp c _ => ⟨_, _, _, rfl, rfl, fun z => absurd z (nI_pos (by omega)), fun _ => ?_⟩)
        · have c : s_hp V (s_rd V k st).1 k = false := any_n (fun p hp => decide_eq_false (fun e => c p hp ((onk p hp).mpr e)))
          have cn : ¬ s_hp V (s_rd V k st).1 k = true := by rw [c]; decide
          refine ok_M_next (by omega) hv ha h6 g1 hk4 ⟨_, _, _, rfl, rfl, ?_⟩
          cases e : s_nx (fun p => s_M V k p && !(s_rd V k st).1.2 k p) (s_kp V k) (s_rl V) with
          | none =>
            exact ⟨fun _ => same (by unfold s_sk; rw [if_neg cn, e]) I' L' g1 g2, fun z => absurd (show (-1 : Int32) < 0 by decide) z⟩
          | some p =>
            have nl := nx_lt e
            have p6 : p < 6 := by omega
            refine ⟨fun z => absurd z (nI_pos (n := p) (by omega)), fun _ => ⟨k20, ?_⟩⟩
            rintro _ rfl
            refine ⟨p, p6, rfl, ?_⟩
            have ee : s_sk V k (s_rd V k st).1 = (s_ak V k (s_rd V k st).1 p, true) := by unfold s_sk; rw [if_neg cn, e]
            have ih2 : ∀ (I2 : am_V) (L2 : Nat → Nat → Int64), w_mp V I2 (s_ak V k (s_rd V k st).1 p) → am_lo I2 I → am_Run am_X0 (am_meth d) 216 R 58 [some (.ref 113), some (.int 1), some (.int (nI (k + 1))), none] [] (am_mk I2 L2, 0, 0) := fun I2 L2 a b => by
              have := ih I2 L2
              simp only [s_rd, ee, Bool.or_true, if_true] at this
              exact this a b
            have m2 : RM (va_up I' 150 (upd (I' 150) k (I' 150 k ||| (1 <<< (nI p &&& 31))))) V := RM_s (by decide) (by decide) g1.1.1
            have bits : ∀ x, x < am_n V 113 4 → ∀ y, y < s_rl V → am_bt (upd (I' 150) k (I' 150 k ||| (1 <<< (nI p &&& 31))) x) y = ((s_rd V k st).1.2 x y || decide (x = k ∧ y = p)) := fun x hx y hy => by
              by_cases ex : x = k
              · subst ex
                rw [upd_at, bt_or (by omega) (by omega), g1.2.2 x hx y hy]
                by_cases e : y = p
                · simp [e]
                · simp [e]
              · rw [upd_ne ex, g1.2.2 x hx y hy]
                simp [ex]
            have kept : s_pp V k ((s_rd V k st).1.1 p) = false → am_Run am_X0 (am_meth d) 216 R 58 [some (.ref 113), some (.int 1), some (.int (nI (k + 1))), none] [] (am_mk (va_up I' 150 (upd (I' 150) k (I' 150 k ||| (1 <<< (nI p &&& 31))))) L', 0, 0) := fun q => by
              refine ih2 _ L' ⟨pv_up g1.1 (fun c h1 h2 => by rw [am_vat, if_neg h2]), fun y hy => ?_, bits⟩ (lo_up (by decide) g2)
              show I' 149 y = am_on (-1) (if y = p ∧ s_pp V k ((s_rd V k st).1.1 p) = true then some k else (s_rd V k st).1.1 y)
              rw [if_neg (fun z => by rw [q] at z; exact Bool.noConfusion z.2)]
              exact g1.2.1 y hy
            have got : s_pp V k ((s_rd V k st).1.1 p) = true → am_Run am_X0 (am_meth d) 216 R 58 [some (.ref 113), some (.int 1), some (.int (nI (k + 1))), none] [] (am_mk (va_up (va_up I' 150 (upd (I' 150) k (I' 150 k ||| (1 <<< (nI p &&& 31))))) 149 (upd (I' 149) p (nI k))) L', 0, 0) := fun q => by
              refine ih2 _ L' ⟨pv_up g1.1 (fun c h1 h2 => by rw [am_vat, if_neg h1, am_vat, if_neg h2]), fun y hy => ?_, bits⟩ (lo_up (by decide) (lo_up (by decide) g2))
              show upd (I' 149) p (nI k) y = am_on (-1) (if y = p ∧ s_pp V k ((s_rd V k st).1.1 p) = true then some k else (s_rd V k st).1.1 y)
              by_cases e : y = p
              · rw [if_pos ⟨e, q⟩, e, upd_at]; rfl
              · rw [if_neg (fun z => e z.1), upd_ne e]; exact g1.2.1 y hy
            show am_meth d 223 [.ref 113, .int (nI k), .int (I' 149 p)] _ _
            rw [g1.2.1 p nl.1]
            cases eo : (s_rd V k st).1.1 p with
            | none =>
              rw [eo] at kept got
              refine ok_M_prefers0 (by omega) (by decide) ⟨_, _, _, rfl, rfl, fun w => absurd w (by decide), fun _ => ?_⟩
              rintro _ rfl
              exact got rfl
            | some q =>
              have hq := (J p q eo).1
              rw [eo] at kept got
              refine ok_M_prefers (by omega) m2 hv k20 (by omega) (fun c => ⟨_, _, _, rfl, rfl, fun w => absurd w (by decide), fun _ => ?_⟩) (fun c => ⟨_, _, _, rfl, rfl, fun _ => kept c, fun w => absurd rfl w⟩)
              rintro _ rfl
              exact got c
        · exact same (by unfold s_sk; rw [if_pos (show s_hp V (s_rd V k st).1 k = true from s_any_of hp (decide_eq_true ((onk p hp).mp c)))]) I' L' g1 g2
  have asked : ∀ (I' : am_V), w_pv V I' → am_lo I' I → (∀ p, p < s_rl V → I' 149 p = -1) → am_Run am_X0 (am_meth d) 216 R 27 [some (.ref 113), some (.int 0), none, none] [] (am_mk I' L1, 0, 0) := by
    intro I' f1 f2 f3
    refine am_up (P := fun k => ∀ (I' : am_V), w_pv V I' → am_lo I' I → (∀ p, p < s_rl V → I' 149 p = -1) → (∀ x, x < k → I' 150 x = 0) → am_Run am_X0 (am_meth d) 216 R 27 [some (.ref 113), some (.int (nI k)), none, none] [] (am_mk I' L1, 0, 0)) (n := am_n V 113 4) (fun I' g1 g2 g3 g4 => ?_) (fun k hk4 ih I' g1 g2 g3 g4 => ?_) I' f1 f2 f3 (fun x hx => absurd hx (Nat.not_lt_zero x))
    · have en : I' 113 4 = nI (am_n V 113 4) := by rw [g1.1.2 4 rfl]; exact hk.1
      refine r_M_makePairs_27 ⟨fun c => absurd (en ▸ c) (nI_nlt (Nat.le_refl _) (by omega)), fun _ => go 121 I' L1 s_s0 (by omega) ⟨g1, g3, fun x hx p hp => ?_⟩ J_0 g2 h⟩
      rw [g4 x hx, bt_0]; rfl
    · have en : I' 113 4 = nI (am_n V 113 4) := by rw [g1.1.2 4 rfl]; exact hk.1
      refine r_M_makePairs_27 ⟨fun _ => ⟨by omega, ?_⟩, fun c => absurd (by rw [en]; exact nI_lt hk4 (by omega)) c⟩
      rintro _ rfl
      refine ih _ (pv_up g1 (fun c h1 h2 => by rw [am_vat, if_neg h2])) (lo_up (by decide) g2) g3 (fun x hx => ?_)
      show upd (I' 150) k 0 x = 0
      by_cases e : x = k
      · rw [e, upd_at]
      · rw [upd_ne e]; exact g4 x (by omega)
  refine am_up (P := fun p => ∀ (I' : am_V), w_pv V I' → am_lo I' I → (∀ y, y < p → I' 149 y = -1) → am_Run am_X0 (am_meth d) 216 R 6 [some (.ref 113), some (.int (nI p)), none, none] [] (am_mk I' L1, 0, 0)) (n := 6) (fun I' g1 g2 g3 => ?_) (fun p hp ih I' g1 g2 g3 => ?_) I1 p1 lo1 (fun y hy => absurd hy (Nat.not_lt_zero y))
  · exact r_M_makePairs_6 ⟨fun c => absurd c (by decide), fun _ => asked I' g1 g2 (fun p hp => g3 p (by omega))⟩
  · refine r_M_makePairs_6 ⟨fun _ => ⟨hp, ?_⟩, fun c => absurd (nI_lt (b := 6) hp (by decide)) c⟩
    rintro _ rfl
    refine ih _ (pv_up g1 (fun c h1 h2 => by rw [am_vat, if_neg h1])) (lo_up (by decide) g2) (fun y hy => ?_)
    show upd (I' 149) p (-1) y = -1
    by_cases e : y = p
    · rw [e, upd_at]
    · rw [upd_ne e]; exact g3 y (by omega)
theorem M_pair {x : Int32} (hd : 11 ≤ d) (hx : w_Tx V) (hm : RM I V) (hv : Inv V) (h : ∀ I' L', RM I' (o_pair V x).2 → am_lo I' I → R (some (.int (o_pair V x).1)) (am_mk I' L', 0, 0)) : am_meth d 214 [.ref 113, .int x] (am_mk I L, 0, 0) R := by
  obtain ⟨d, rfl⟩ : ∃ e, d = e + 1 := ⟨d - 1, by omega⟩
  have hr := rl_12 hv
  have n7 : I 113 39 = V 113 39 := hm.2 39 rfl
  refine ar_in rfl rfl rfl (r_M_pair_0 ?_)
  unfold o_pair at h
  refine ok_M_bars (by omega) hm hv ⟨_, _, _, rfl, rfl, fun c => ?_, fun c => ?_⟩
  · have c0 : ¬ s_bar V = 0 := fun e => by rw [e] at c; exact absurd c (by decide)
    rw [if_neg c0] at h
    exact ok_noX (by omega) hm c0 (fun I' L' a b => ⟨_, _, _, rfl, rfl, h I' L' a b⟩)
  · have c0 : s_bar V = 0 := by
      rcases Classical.em (s_bar V = 0) with q | q
      · exact q
      · exact absurd (bar_n q).2.2 c
    rw [if_pos c0] at h
    obtain ⟨ha, ho, h6⟩ := bar_0 hv c0
    rw [n7]
    refine ⟨fun c1 => ?_, fun c1 => ⟨fun c2 => ?_, fun c2 => ?_⟩⟩
    · rw [if_neg (fun z => absurd c1 (Int32.not_lt.mpr z.1))] at h
      exact ok_no (j := 2) (by omega) (by decide) (by decide) ⟨_, _, _, rfl, rfl, h _ _ (RM_no hm) (lo_up (by decide) lo_r)⟩
    · rw [if_pos ⟨Int32.not_lt.mp c1, c2⟩] at h
      rw [hr.1] at c2
      obtain ⟨p, hp, rfl⟩ := am_nat (x := x) ⟨Int32.not_lt.mp c1, c2⟩ (by omega)
      rw [nI_clamp (by omega)] at h
      refine ok_M_pairs (by omega) hm hv hx ha h6 (fun I2 L2 w1 w2 w3 w4 => ⟨_, _, rfl, rfl, p, by omega, rfl, ?_⟩)
      rw [w3 p hp, on_0 (by decide) (J_1000 hv w4 p)]
      have h := h I2 L2 w1 w2
      revert h
      cases (s_itr V 121 s_s0).1 p with
      | none => exact fun h => ⟨fun _ => h, fun z => absurd rfl z⟩
      | some q => exact fun h => ⟨fun z => absurd z (by simp), fun _ => h⟩
    · rw [if_neg (fun z => c2 z.2)] at h
      exact ok_no (j := 2) (by omega) (by decide) (by decide) ⟨_, _, _, rfl, rfl, h _ _ (RM_no hm) (lo_up (by decide) lo_r)⟩
end PR
