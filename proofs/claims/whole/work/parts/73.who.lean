/-! whoElse -/
def s_ht (V : am_V) (k s : Nat) : Int32 := V 115 (10 * (s_town V k (V 126 s)).toNatClampNeg + s_tn V s)
def s_prf (V : am_V) (a b : Nat) : Bool := decide (s_tr V (nI b) (V 113 0) < s_tr V (nI a) (V 113 0) ∨ s_tr V (nI a) (V 113 0) = s_tr V (nI b) (V 113 0) ∧ a < b)
def s_who (V : am_V) (s : Nat) : Nat → Option Nat
  | 0 => none
  | k + 1 => if s_why V k s = 0 then (match s_who V s k with
    | none => some k
    | some j => if s_ht V k s < s_ht V j s ∨ s_ht V k s = s_ht V j s ∧ s_prf V k j = true then some k else some j) else s_who V s k
theorem who_lt {V : am_V} {s : Nat} : ∀ {n j : Nat}, s_who V s n = some j → j < n
  | 0, _, h => nomatch h
  | n + 1, j, h => by
    unfold s_who at h
    split at h
    · split at h
      · injection h with e; omega
      · rename_i i hi
        split at h
        · injection h with e; omega
        · injection h with e; have := who_lt hi; omega
    · have := who_lt h; omega
section WH
variable {d : Nat} {I V : am_V} {L : Nat → Nat → Int64} {R : am_R}
theorem town_ix {k : Nat} {day : Int32} (hv : Inv V) (hk : k < 20) : ∃ j, j < 10 ∧ s_town V k day = nI j := by
  unfold s_town
  have hn2 := hv.1.2.2.2.1.2
  cases e : s_last V (nI k) day (am_n V 113 14) with
  | none => exact ⟨_, (hv.2.2.1 k hk).1.2, (hv.2.2.1 k hk).1.1⟩
  | some j =>
    have hj := s_last_lt e
    exact ⟨_, (tn_ix hv (s := j) (by omega)).2, (tn_ix hv (s := j) (by omega)).1⟩
theorem ok_Ru_hoursTo {k s : Nat} (hd : 3 ≤ d) (hc : RC I V) (hv : Inv V) (hk : k < 20) (hs : s < 60) (h : R (some (.int (s_ht V k s))) (am_mk I L, 0, 0)) : am_meth d 113 [.ref 99, .int (nI k), .int (nI s)] (am_mk I L, 0, 0) R := by
  obtain ⟨d, rfl⟩ : ∃ e, d = e + 1 := ⟨d - 1, by omega⟩
  obtain ⟨⟨n1, n2, n3, n4, n5, n6, n7, n8⟩, ⟨e1, e2, e3, e4, e5, e6, e7, e8, e9, e10, e11, e12, e13, e14, e15, e16, e17⟩, -⟩ := id hc
  obtain ⟨j, hj, ej⟩ := town_ix (day := V 126 s) hv hk
  refine ar_in rfl rfl rfl (r_Rules_hoursTo_0 (by omega) ⟨hs, ?_⟩)
  rw [e11]
  have n67 : am_n I 67 s = am_n V 125 s := by unfold am_n; rw [e10]
  have ix67 : am_ix I 67 s 20 := by unfold am_ix am_n; rw [e10]; exact (hv.2.2.2.1.1 s hs).1
  refine ok_Ru_townOn (by omega) hc hv rfl hk ⟨_, _, _, rfl, rfl, j, hj, ej, hs, ix67, s_tn V s, (tn_ix hv hs).2, by rw [n67, e8]; exact (tn_ix hv hs).1, ?_⟩
  unfold s_ht at h
  rw [ej, nI_clamp (by omega)] at h
  rw [← hc.2.2.1.1 j (s_tn V s) hj (tn_ix hv hs).2, r10_e hj] at h
  exact h
theorem ok_M_hoursTo {k s : Nat} (hd : 3 ≤ d) (hm : RM I V) (hv : Inv V) (hk : k < 20) (hs : s < 60) (h : R (some (.int (s_ht V k s))) (am_mk I L, 0, 0)) : am_meth d 218 [.ref 113, .int (nI k), .int (nI s)] (am_mk I L, 0, 0) R := by
  obtain ⟨d, rfl⟩ : ∃ e, d = e + 1 := ⟨d - 1, by omega⟩
  have mc := hm.1; have mf := hm.2
  obtain ⟨j, hj, ej⟩ := town_ix (day := V 126 s) hv hk
  refine ar_in rfl rfl rfl (r_M_hoursTo_0 (by omega) ⟨hs, ?_⟩)
  rw [mc 126 rfl]
  have n67 : am_n I 125 s = am_n V 125 s := by unfold am_n; rw [mc 125 rfl]
  have ix67 : am_ix I 125 s 20 := by unfold am_ix am_n; rw [mc 125 rfl]; exact (hv.2.2.2.1.1 s hs).1
  have t := tn_ix hv hs
  have t2 := t.2
  refine ok_M_whereOf (by omega) hm hv rfl hk ⟨_, _, _, rfl, rfl, hs, ix67, 10 * j + s_tn V s, by omega, ?_, ?_⟩
  · rw [n67, mc 122 rfl, ej, t.1, ← nI_add]
    rw [show (10 : Int32) * nI j = nI (10 * j) from (Int32.ofNat_mul 10 j).symm]
  · unfold s_ht at h
    rw [ej, nI_clamp (by omega)] at h
    rw [mc 115 rfl]; exact h
theorem ht_ix {k s : Nat} (hv : Inv V) (hk : k < 20) (hs : s < 60) : ∃ x, x < 241 ∧ s_ht V k s = nI x := by
  obtain ⟨j, hj, ej⟩ := town_ix (day := V 126 s) hv hk
  have t := (tn_ix hv hs).2
  unfold s_ht
  rw [ej, nI_clamp (by omega)]
  have := hv.2.1.2.1 (10 * j + s_tn V s) (by omega)
  exact ⟨_, this.2, this.1⟩
theorem kds_of (hc : RC I V) (hv : Inv V) (h8 : I 74 8 = V 113 0) : am_kds I V (V 113 0) := by
  have ht := hv.1.1
  have ht2 := ht.2
  rcases hc.2.2.2.2.1 with q | ⟨day, q1, q2, q3, q4⟩
  · rw [h8, ht.1, show (1501 : Int32) = nI 1501 from rfl, nI_eq (by omega) (by decide)] at q; omega
  · rw [← h8, q2]; exact ⟨q3, q4⟩
theorem ok_Ma_prefers {a b : Nat} (hd : 1 ≤ d) (hk : am_kds I V (V 113 0)) (ha : a < 20) (hb : b < 20) (h1 : s_prf V a b = true → R (some (.int 1)) (am_mk I L, 0, 0)) (h0 : s_prf V a b = false → R (some (.int 0)) (am_mk I L, 0, 0)) : am_meth d 67 [.ref 106, .int (nI a), .int (nI b)] (am_mk I L, 0, 0) R := by
  obtain ⟨d, rfl⟩ : ∃ e, d = e + 1 := ⟨d - 1, by omega⟩
  refine ar_in rfl rfl rfl (r_Match_stayPrefers_0 ⟨ha, hb, ?_⟩)
  have ta : I 76 a = s_tr V (nI a) (V 113 0) := (hk.2 a ha).1
  have tb : I 76 b = s_tr V (nI b) (V 113 0) := (hk.2 b hb).1
  rw [ta, tb]
  unfold s_prf at h1 h0
  rw [decide_eq_true_iff] at h1
  rw [decide_eq_false_iff_not] at h0
  rw [nI_ltI (by omega) (by omega)]
  refine ⟨fun c => ⟨fun c2 => h1 (Or.inr ⟨c, c2⟩), fun c2 => h0 (fun q => ?_)⟩, fun c => ⟨fun c2 => h0 (fun q => ?_), fun c2 => h1 (Or.inl (Int32.not_le.mp c2))⟩⟩
  · rcases q with q | q
    · rw [c] at q; exact Int32.lt_irrefl q
    · exact c2 q.2
  · rcases q with q | q
    · exact absurd c2 (Int32.not_le.mpr q)
    · exact c q.1
theorem ok_M_prefers {a b : Nat} (hd : 4 ≤ d) (hm : RM I V) (hv : Inv V) (ha : a < 20) (hb : b < 20) (h1 : s_prf V a b = true → R (some (.int 1)) (am_mk I L, 0, 0)) (h0 : s_prf V a b = false → R (some (.int 0)) (am_mk I L, 0, 0)) : am_meth d 223 [.ref 113, .int (nI a), .int (nI b)] (am_mk I L, 0, 0) R := by
  obtain ⟨d, rfl⟩ : ∃ e, d = e + 1 := ⟨d - 1, by omega⟩
  refine ar_in rfl rfl rfl (r_M_prefers_0 ⟨fun c => absurd c (nI_pos (by omega)), fun _ => ?_⟩)
  unfold s_prf at h1 h0
  rw [decide_eq_true_iff] at h1
  rw [decide_eq_false_iff_not] at h0
  rw [hm.2 0 rfl]
  refine ok_M_trustOf (by omega) hm hv ⟨_, _, _, rfl, rfl, ?_⟩
  dsimp only
  rw [hm.2 0 rfl]
  refine ok_M_trustOf (by omega) hm hv ⟨_, _, _, rfl, rfl, ?_⟩
  dsimp only
  rw [nI_ltI (by omega) (by omega)]
  refine ⟨fun c => ⟨fun c2 => ⟨fun c3 => h1 (Or.inr ⟨c2, c3⟩), fun c3 => h0 (fun q => ?_)⟩, fun c2 => h0 (fun q => ?_)⟩, fun c => h1 (Or.inl (Int32.not_le.mp c))⟩
  · rcases q with q | q
    · exact absurd c (Int32.not_le.mpr q)
    · exact c3 q.2
  · rcases q with q | q
    · exact absurd c (Int32.not_le.mpr q)
    · exact c2 q.1
def s_bh (V : am_V) (s : Nat) : Option Nat → Int32
  | none => 0
  | some j => s_ht V j s
theorem ok_Ma_nearest {s : Nat} (hd : 8 ≤ d) (hc : RC I V) (hv : Inv V) (hs : s < am_n V 113 14) (h : ∀ I' L', RC I' V → am_hi I' I → R (some (.int (am_on (-9) (s_who V s (am_n V 113 4))))) (am_mk I' L', 0, 0)) : am_meth d 70 [.ref 106, .int (nI s)] (am_mk I L, 0, 0) R := by
  obtain ⟨d, rfl⟩ : ∃ e, d = e + 1 := ⟨d - 1, by omega⟩
  have hn2 := hv.1.2.2.2.1.2
  have h60 : s < 60 := by omega
  have hk := hv.1.2.1
  have hk2 := hk.2
  have ht := hv.1.1
  have ht2 := ht.2
  have e13 : I 70 = V 128 := hc.2.1.2.2.2.2.2.2.2.2.2.2.2.2.1
  have n3 : I 66 0 = V 113 0 := hc.1.2.2.1
  refine ar_in rfl rfl rfl (r_Match_nearestFor_0 ⟨h60, ?_⟩)
  rw [e13, n3]
  refine ⟨fun co => ?_, fun co => ?_⟩
  · refine ok_Re_know8 (by omega) hc hv ht.1 (by omega) (fun I1 L1 hc1 h6 kd k8 => ⟨_, _, rfl, rfl, ?_⟩)
    rw [← ht.1] at k8
    refine am_up (P := fun k => ∀ I' L', RC I' V → am_hi I' I → I' 74 8 = V 113 0 → am_Run am_X0 (am_meth d) 70 R 37 [some (.ref 106), some (.int (nI s)), some (.int (am_on (-9) (s_who V s k))), some (.int (s_bh V s (s_who V s k))), some (.int (nI k)), none, none] [] (am_mk I' L', 0, 0)) (n := am_n V 113 4) (fun I' L' f1 f2 f3 => ?_) (fun k hk4 ih I' L' f1 f2 f3 => ?_) I1 L1 hc1 (k6_hi h6) k8
    · have en : I' 16 0 = nI (am_n V 113 4) := by rw [f1.1.1]; exact hk.1
      exact r_Match_nearestFor_37 ⟨fun c => absurd (en ▸ c) (nI_nlt (Nat.le_refl _) (by omega)), fun _ => h I' L' f1 f2⟩
    · have en : I' 16 0 = nI (am_n V 113 4) := by rw [f1.1.1]; exact hk.1
      have k20 : k < 20 := by omega
      refine r_Match_nearestFor_37 ⟨fun _ => ?_, fun c => absurd (by rw [en]; exact nI_lt hk4 (by omega)) c⟩
      refine ok_Ru_gather (by omega) f1 hv (fun I2 L2 mm n hc2 h2 hm hg _ => ⟨_, _, rfl, rfl, ?_⟩)
      refine ok_Ru_whyBeside (by omega) hc2 hv hm hg k20 hs co (fun I3 L3 hc3 h7 h8 => ⟨_, _, _, rfl, rfl, fun c => ?_, fun c => ?_⟩)
      · have hh3 : am_hi I3 I := fun c hc => (k7_hi h7 c hc).trans ((m2_hi h2 c hc).trans (f2 c hc))
        have k83 : I3 74 8 = V 113 0 := h8 (by rw [h2 74 (by decide) (by decide)]; exact f3)
        refine ok_Ru_hoursTo (by omega) hc3 hv k20 h60 ⟨_, _, _, rfl, rfl, ?_⟩
        have ih := ih I3 L3 hc3 hh3 k83
        simp only [s_who, if_pos c] at ih
        revert ih
        cases e : s_who V s k with
        | none =>
          intro ih
          refine ⟨fun _ => ⟨fun _ => ih, fun q => absurd rfl q⟩, fun _ => ⟨fun _ => ⟨fun _ => ih, fun q => absurd rfl q⟩, fun _ => ⟨fun _ => ih, fun q => absurd rfl q⟩⟩⟩
        | some j =>
          have hj := who_lt e
          intro ih
          have nn : ¬ nI j = -9 := on_ne (by omega)
          refine ⟨fun c2 => ⟨fun q => absurd q nn, fun _ => ?_⟩, fun c2 => ⟨fun c3 => ⟨fun q => absurd q nn, fun _ => ?_⟩, fun c3 => ⟨fun q => absurd q nn, fun _ => ?_⟩⟩⟩
          · have c2 : s_ht V k s = s_ht V j s := c2
            refine ok_Ma_prefers (by omega) (kds_of hc3 hv k83) k20 (by omega) (fun q => ⟨_, _, _, rfl, rfl, fun z => absurd z (by decide), fun _ => ?_⟩) (fun q => ⟨_, _, _, rfl, rfl, fun _ => ?_, fun z => absurd rfl z⟩)
            · simp only [if_pos (show s_ht V k s < s_ht V j s ∨ s_ht V k s = s_ht V j s ∧ s_prf V k j = true from Or.inr ⟨c2, q⟩)] at ih; exact ih
            · simp only [if_neg (show ¬ (s_ht V k s < s_ht V j s ∨ s_ht V k s = s_ht V j s ∧ s_prf V k j = true) from fun w => by
                rcases w with w | w
                · rw [c2] at w; exact Int32.lt_irrefl w
                · rw [q] at w; exact Bool.noConfusion w.2)] at ih
              exact ih
          · have c3 : s_ht V k s < s_ht V j s := c3
            simp only [if_pos (show s_ht V k s < s_ht V j s ∨ s_ht V k s = s_ht V j s ∧ s_prf V k j = true from Or.inl c3)] at ih; exact ih
          · have c2 : ¬ s_ht V k s = s_ht V j s := c2
            have c3 : ¬ s_ht V k s < s_ht V j s := c3
            simp only [if_neg (show ¬ (s_ht V k s < s_ht V j s ∨ s_ht V k s = s_ht V j s ∧ s_prf V k j = true) from fun w => w.elim c3 (fun w => c2 w.1))] at ih; exact ih
      · have hh3 : am_hi I3 I := fun c hc => (k7_hi h7 c hc).trans ((m2_hi h2 c hc).trans (f2 c hc))
        have k83 : I3 74 8 = V 113 0 := h8 (by rw [h2 74 (by decide) (by decide)]; exact f3)
        have ih := ih I3 L3 hc3 hh3 k83
        simp only [s_who, if_neg c] at ih
        exact ih
  · have e : ∀ n, s_who V s n = none := by
      intro n
      induction n with
      | zero => rfl
      | succ n ih =>
        unfold s_who
        rw [if_neg (show ¬ s_why V n s = 0 from fun q => co (why_0 q).1)]; exact ih
    rw [e] at h
    exact h I L hc hi_r
def o_who (V : am_V) (s : Int32) : Int32 × am_V := if 0 ≤ s ∧ s < V 113 14 then (am_on (-9) (s_who V s.toNatClampNeg (am_n V 113 4)), V) else o_no V 1 (-1)
theorem C_whoElse {s : Int32} (hd : 9 ≤ d) (hc : RC I V) (hv : Inv V) (h : ∀ I' L', RC I' (o_who V s).2 → am_hi I' I → R (some (.int (o_who V s).1)) (am_mk I' L', 0, 0)) : am_meth d 35 [.ref 0, .int s] (am_mk I L, 0, 0) R := by
  obtain ⟨d, rfl⟩ : ∃ e, d = e + 1 := ⟨d - 1, by omega⟩
  refine ar_in rfl rfl rfl (r_H_whoElse_0 (by omega) ?_)
  obtain ⟨⟨n1, n2, n3, n4, n5, n6, n7, n8⟩, ⟨e1, e2, e3, e4, e5, e6, e7, e8, e9, e10, e11, e12, e13, e14, e15, e16, e17⟩, -⟩ := id hc
  rw [n4]
  unfold o_who at h
  refine ⟨fun c => ?_, fun c => ?_⟩
  · rw [if_pos c] at h
    obtain ⟨j, j1, rfl, j2⟩ := ix_s hv c
    rw [nI_clamp (by omega)] at h
    exact ok_Ma_nearest (by omega) hc hv j2 (fun I' L' a b => ⟨_, _, _, rfl, rfl, h I' L' a b⟩)
  · (rw [if_neg c] at h; exact h _ _ (RC_no hc) (hi_up (by decide) hi_r))
theorem sub_le0 {x y : Nat} (hx : x < 10000) (hy : y < 10000) : (nI x - nI y ≤ 0 ↔ x ≤ y) ∧ (nI x - nI y = 0 ↔ x = y) := by
  have e : (nI x - nI y).toInt = (x : Int) - y := by
    rw [Int32.toInt_sub, nI_toInt (by omega), nI_toInt (by omega), Int.bmod_eq_of_le (by omega) (by omega)]
  rw [Int32.le_iff_toInt_le, ← Int32.toInt_inj, e, show (0 : Int32).toInt = 0 from rfl]
  omega
theorem M_whoElse {s : Int32} (hd : 9 ≤ d) (hx : w_Tx V) (hm : RM I V) (hv : Inv V) (h : ∀ I' L', RM I' (o_who V s).2 → am_lo I' I → R (some (.int (o_who V s).1)) (am_mk I' L', 0, 0)) : am_meth d 228 [.ref 113, .int s] (am_mk I L, 0, 0) R := by
  obtain ⟨d, rfl⟩ : ∃ e, d = e + 1 := ⟨d - 1, by omega⟩
  refine ar_in rfl rfl rfl (r_M_whoElse_0 (by omega) ?_)
  have hk := hv.1.2.1
  have hk2 := hk.2
  rw [hm.2 14 rfl]
  unfold o_who at h
  refine ⟨fun c => ?_, fun c => ?_⟩
  · rw [if_pos c] at h
    obtain ⟨s, h60, rfl, hs⟩ := ix_s hv c
    rw [nI_clamp (by omega)] at h
    refine am_up (P := fun k => ∀ I' L', RM I' V → am_lo I' I → am_Run am_X0 (am_meth d) 228 R 18 [some (.ref 113), some (.int (nI s)), some (.int (am_on (-1) (s_who V s k))), some (.int (nI k)), none] [] (am_mk I' L', 0, 0)) (n := am_n V 113 4) (fun I' L' f1 f2 => ?_) (fun k hk4 ih I' L' f1 f2 => ?_) I L hm lo_r
    · have en : I' 113 4 = nI (am_n V 113 4) := by rw [f1.2 4 rfl]; exact hk.1
      refine r_M_whoElse_18 ⟨fun c => absurd (en ▸ c) (nI_nlt (Nat.le_refl _) (by omega)), fun _ => ?_⟩
      revert h
      cases e : s_who V s (am_n V 113 4) with
      | none => exact fun h => ⟨fun _ => h I' L' f1 f2, fun q => absurd (show (-1 : Int32) < 0 by decide) q⟩
      | some j =>
        have hj := who_lt e
        exact fun h => ⟨fun q => absurd q (nI_pos (n := j) (by omega)), fun _ => h I' L' f1 f2⟩
    · have en : I' 113 4 = nI (am_n V 113 4) := by rw [f1.2 4 rfl]; exact hk.1
      have k20 : k < 20 := by omega
      refine r_M_whoElse_18 ⟨fun _ => ?_, fun c => absurd (by rw [en]; exact nI_lt hk4 (by omega)) c⟩
      refine ok_M_whyNot (by omega) f1 hv hx k20 hs (fun I3 L3 m3 l3 => ⟨_, _, _, rfl, rfl, fun c => ?_, fun c => ?_⟩)
      · have hh3 : am_lo I3 I := fun c hc => (mf_lo l3 c hc).trans (f2 c hc)
        have ih := ih I3 L3 m3 hh3
        simp only [s_who, if_pos c] at ih
        revert ih
        cases e : s_who V s k with
        | none => exact fun ih => ⟨fun _ => ih, fun q => absurd (show (-1 : Int32) < 0 by decide) q⟩
        | some j =>
          have hj := who_lt e
          intro ih
          obtain ⟨x, hx1, ex⟩ := ht_ix hv k20 h60
          obtain ⟨y, hy1, ey⟩ := ht_ix (k := j) hv (by omega) h60
          have sb := sub_le0 (x := x) (y := y) (by omega) (by omega)
          refine ⟨fun q => absurd q (nI_pos (n := j) (by omega)), fun _ => ?_⟩
          refine ok_M_hoursTo (by omega) m3 hv k20 h60 ⟨_, _, _, rfl, rfl, ?_⟩
          refine ok_M_hoursTo (k := j) (by omega) m3 hv (by omega) h60 ⟨_, _, _, rfl, rfl, ?_⟩
          dsimp only at ih ⊢
          rw [ex, ey] at ih ⊢
          have el : nI x < nI y ↔ x < y := nI_ltI (by omega) (by omega)
          have eq9 : nI x = nI y ↔ x = y := nI_eq (by omega) (by omega)
          rw [sb.1, sb.2]
          refine ⟨fun c2 => ⟨fun c3 => ?_, fun c3 => ?_⟩, fun c2 => ?_⟩
          · refine ok_M_prefers (by omega) m3 hv k20 (by omega) (fun q => ⟨_, _, _, rfl, rfl, fun z => absurd z (by decide), fun _ => ?_⟩) (fun q => ⟨_, _, _, rfl, rfl, fun _ => ?_, fun z => absurd rfl z⟩)
            · simp only [if_pos (show nI x < nI y ∨ nI x = nI y ∧ s_prf V k j = true from Or.inr ⟨eq9.mpr c3, q⟩)] at ih; exact ih
            · simp only [if_neg (show ¬ (nI x < nI y ∨ nI x = nI y ∧ s_prf V k j = true) from fun w => by
                rcases w with w | w
                · have := el.mp w; omega
                · rw [q] at w; exact Bool.noConfusion w.2)] at ih
              exact ih
          · simp only [if_pos (show nI x < nI y ∨ nI x = nI y ∧ s_prf V k j = true from Or.inl (el.mpr (by omega)))] at ih; exact ih
          · simp only [if_neg (show ¬ (nI x < nI y ∨ nI x = nI y ∧ s_prf V k j = true) from fun w => by rw [el, eq9] at w; omega)] at ih; exact ih
      · have hh3 : am_lo I3 I := fun c hc => (mf_lo l3 c hc).trans (f2 c hc)
        have ih := ih I3 L3 m3 hh3
        simp only [s_who, if_neg c] at ih
        exact ih
  · (rw [if_neg c] at h; exact h _ _ (RM_no hm) (lo_up (by decide) lo_r))
theorem I_who {s : Int32} (hv : Inv V) : Inv (o_who V s).2 := by
  unfold o_who
  split
  · exact hv
  · exact hv
end WH
