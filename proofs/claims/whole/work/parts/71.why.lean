/-! worth, why -/
def w_Tx (V : am_V) : Prop := ∀ t, t < am_n V 113 25 → ∃ code, p_text (w_T V t) (am_n V 136 t) = .inr (am_n V 136 t, code)
theorem Tx_of {I V : am_V} (hc : RC I V) : w_Tx V := fun t ht => by
  obtain ⟨code, h, _⟩ := hc.2.2.2.2.2.2 t ht
  exact ⟨code, h⟩
/-- the pattern of a call that reads texts -/
theorem am_op2 {d kx km : Nat} {as : List Value} {o : am_V → Int32 × am_V}
    (hC : ∀ (I V : am_V) (L : Nat → Nat → Int64) (R : am_R), RC I V → Inv V → (∀ I' L', RC I' (o V).2 → am_hi I' I → R (some (.int (o V).1)) (am_mk I' L', 0, 0)) → am_meth d kx (.ref 0 :: as) (am_mk I L, 0, 0) R)
    (hM : ∀ (I V : am_V) (L : Nat → Nat → Int64) (R : am_R), RM I V → Inv V → w_Tx V → (∀ I' L', RM I' (o V).2 → am_lo I' I → R (some (.int (o V).1)) (am_mk I' L', 0, 0)) → am_meth d km (.ref 113 :: as) (am_mk I L, 0, 0) R)
    (hI : ∀ V, Inv V → Inv (o V).2) : am_Op d kx km as := by
  rintro I L ⟨V, hc, hm, hv⟩
  refine hC I V L _ hc hv (fun I1 L1 hc1 hh => ⟨_, _, _, rfl, rfl, ?_⟩)
  exact hM I1 V L1 _ (RM_hi hh hm) hv (Tx_of hc) (fun I2 L2 hm2 hl => ⟨_, _, _, rfl, rfl, rfl, _, RC_lo hl hc1, hm2, hI V hv⟩)
def s_val (V : am_V) (k s t : Nat) : Int32 := match p_text (w_T V t) (am_n V 136 t) with
  | .inl _ => 0
  | .inr q => ((s_fold (s_let V k s) q.2 []).headD 0).toInt32
theorem val_e {V : am_V} {k s t : Nat} {code : List Int32} {v : Int64} (e : p_text (w_T V t) (am_n V 136 t) = .inr (am_n V 136 t, code)) (hv : w_val (s_let V k s) code v) : s_val V k s t = v.toInt32 := by
  unfold s_val
  rw [e]
  simp only []
  rw [hv]; rfl
def s_worth (V : am_V) (k s : Nat) : Int32 := match s_frc V (V 125 s) with
  | none => 1
  | some t => s_val V k s t
theorem frc_lt {V : am_V} {ho : Int32} {t : Nat} (h : s_frc V ho = some t) : t < am_n V 113 25 := by
  unfold s_frc at h
  split at h
  · exact lat_lt h
  · rename_i t2 e
    cases h; exact lat_lt e
section WY
variable {d : Nat} {I V : am_V} {L : Nat → Nat → Int64} {R : am_R}
theorem k7_hi {I' : am_V} (h : w_k7 I' I) : am_hi I' I := fun c hc => h c (by omega) (by omega) (by omega) (by omega) (by omega) (by omega)
theorem ok_Ru_worth {k s : Nat} (hd : 6 ≤ d) (hc : RC I V) (hv : Inv V) (hk : k < 20) (hs : s < 60) (h : ∀ I' L', RC I' V → w_k7 I' I → (I 74 8 = V 113 0 → I' 74 8 = V 113 0) → R (some (.int (s_worth V k s))) (am_mk I' L', 0, 0)) : am_meth d 107 [.ref 99, .int (nI k), .int (nI s)] (am_mk I L, 0, 0) R := by
  obtain ⟨d, rfl⟩ : ∃ e, d = e + 1 := ⟨d - 1, by omega⟩
  refine ar_in rfl rfl rfl (r_Rules_worthOfTerm_0 ⟨hs, ?_⟩)
  have n3 : I 66 0 = V 113 0 := hc.1.2.2.1
  have e67 : I 67 = V 125 := hc.2.1.2.2.2.2.2.2.2.2.2.1
  have hn2 := hv.1.2.2.2.2.2.1.2
  rw [n3, e67]
  refine ok_Te_inForce (by omega) hc hv ⟨_, _, _, rfl, rfl, ?_⟩
  unfold s_worth at h
  cases e : s_frc V (V 125 s) with
  | none =>
    rw [e] at h
    exact ⟨fun _ => h I L hc (fun _ _ _ _ _ _ _ => rfl) id, fun q => absurd rfl q⟩
  | some t =>
    rw [e] at h
    have ht := frc_lt e
    refine ⟨fun q => absurd q (on_ne (by omega)), fun _ => ?_⟩
    refine ok_Ru_setLetters (by omega) hc hv hk hs (fun I2 L2 hc2 h7 h8 hl => ⟨_, _, rfl, rfl, ?_⟩)
    obtain ⟨code, p1, p2, p3, p4⟩ := hc2.2.2.2.2.2.2 t ht
    obtain ⟨v, hvl, -⟩ := ev_text (d := 5) (k := k) (s := s) ⟨hv, ht, hk, hs, by decide⟩ p1
    refine ok_Te_valueOf (by omega) (by omega) p2 p3 p4 hl hvl (fun L3 => ⟨_, _, _, rfl, rfl, ?_⟩)
    rw [← val_e p1 hvl]
    exact h I2 L3 hc2 h7 (fun _ => h8)
theorem ok_M_worthOf {k s : Nat} (hd : 7 ≤ d) (hm : RM I V) (hv : Inv V) (hx : w_Tx V) (hk : k < 20) (hs : s < 60) (h : ∀ I' L', RM I' V → w_mf I' I → R (some (.int (s_worth V k s))) (am_mk I' L', 0, 0)) : am_meth d 172 [.ref 113, .int (nI k), .int (nI s)] (am_mk I L, 0, 0) R := by
  obtain ⟨d, rfl⟩ : ∃ e, d = e + 1 := ⟨d - 1, by omega⟩
  refine ar_in rfl rfl rfl (r_M_worthOf_0 ⟨hs, ?_⟩)
  have hn2 := hv.1.2.2.2.2.2.1.2
  rw [hm.1 125 rfl]
  have go : ∀ t, s_frc V (V 125 s) = some t → am_meth d 174 [.ref 113, .int (nI t), .int (nI k), .int (nI s)] (am_mk I L, 0, 0) (am_rl (fun z I2 L2 => R (some (.int z.toInt32)) (am_mk I2 L2, 0, 0))) := by
    intro t e
    have ht := frc_lt e
    obtain ⟨code, p1⟩ := hx t ht
    obtain ⟨d, rfl⟩ : ∃ e, d = e + 1 := ⟨d - 1, by omega⟩
    obtain ⟨v, hvl, ev⟩ := ev_text (d := d) (k := k) (s := s) ⟨hv, ht, hk, hs, by omega⟩ p1
    refine ev _ I L hm (fun I' L' m1 m2 => ⟨_, _, _, rfl, rfl, ?_⟩)
    have e2 : s_worth V k s = v.toInt32 := by unfold s_worth; rw [e]; exact val_e p1 hvl
    dsimp only
    rw [← e2]
    exact h I' L' m1 m2
  refine ok_M_latest (by omega) hm hv ⟨_, _, _, rfl, rfl, ?_⟩
  cases e1 : s_lat V (V 125 s) (am_n V 113 25) with
  | some t =>
    have ht := lat_lt e1
    refine ⟨fun q => absurd q (nI_pos (n := t) (by omega)), fun _ => go t ?_⟩
    unfold s_frc; rw [e1]
  | none =>
    refine ⟨fun _ => ok_M_latest (by omega) hm hv ⟨_, _, _, rfl, rfl, ?_⟩, fun q => absurd (show (-1 : Int32) < 0 by decide) q⟩
    cases e2 : s_lat V (-1) (am_n V 113 25) with
    | some t =>
      have ht := lat_lt e2
      refine ⟨fun q => absurd q (nI_pos (n := t) (by omega)), fun _ => go t ?_⟩
      unfold s_frc; rw [e1]; exact e2
    | none =>
      refine ⟨fun _ => ?_, fun q => absurd (show (-1 : Int32) < 0 by decide) q⟩
      have e3 : s_worth V k s = 1 := by unfold s_worth s_frc; rw [e1]; simp only []; rw [e2]
      rw [e3] at h
      exact h I L hm mf_r
/-- why a keeper may not take a stay -/
def s_why (V : am_V) (k s : Nat) : Int32 := if V 128 s = 0 then (if V 126 s ≤ V 113 0 then 1 else if V 123 (am_n V 125 s) &&& (V 118 k ^^^ -1) = 0 then (if s_wd V k s = 0 then (if s_worth V k s ≤ 0 then 6 else 0) else s_wd V k s) else 2) else 9
theorem ok_Ru_whyBeside {k s n : Nat} {mm : Nat → Nat} (hd : 7 ≤ d) (hc : RC I V) (hv : Inv V) (hm : w_mn I mm n) (hg : w_ga V (nI k) mm n) (hk : k < 20) (hs : s < am_n V 113 14) (ho : V 128 s = 0) (h : ∀ I' L', RC I' V → w_k7 I' I → (I 74 8 = V 113 0 → I' 74 8 = V 113 0) → R (some (.int (s_why V k s))) (am_mk I' L', 0, 0)) : am_meth d 95 [.ref 99, .int (nI k), .int (nI s)] (am_mk I L, 0, 0) R := by
  obtain ⟨d, rfl⟩ : ∃ e, d = e + 1 := ⟨d - 1, by omega⟩
  have hn2 := hv.1.2.2.2.1.2
  have h60 : s < 60 := by omega
  obtain ⟨⟨n1, n2, n3, n4, n5, n6, n7, n8⟩, ⟨e1, e2, e3, e4, e5, e6, e7, e8, e9, e10, e11, e12, e13, e14, e15, e16, e17⟩, -⟩ := id hc
  have n67 : am_n I 67 s = am_n V 125 s := by unfold am_n; rw [e10]
  have ix67 : am_ix I 67 s 20 := by unfold am_ix am_n; rw [e10]; exact (hv.2.2.2.1.1 s h60).1
  refine ar_in rfl rfl rfl (r_Rules_whyNotBesideMine_0 (by omega) ⟨h60, ?_⟩)
  unfold s_why at h
  rw [if_pos ho] at h
  rw [e11, n3, n67, e9, e5]
  refine ⟨fun c => ?_, fun c => ⟨hk, h60, ix67, fun c2 => ?_, fun c2 => ?_⟩⟩
  · rw [if_pos c] at h; exact h I L hc (fun _ _ _ _ _ _ _ => rfl) id
  · rw [if_neg c, if_neg c2] at h; exact h I L hc (fun _ _ _ _ _ _ _ => rfl) id
  · rw [if_neg c, if_pos (Classical.not_not.mp c2)] at h
    refine ok_Ru_whyNotByDays (by omega) (w_rc_of hc) hv hm hg hk hs ⟨_, _, _, rfl, rfl, fun c3 => ?_, fun c3 => ?_⟩
    · rw [if_pos c3] at h
      refine ok_Ru_worth (by omega) hc hv hk h60 (fun I2 L2 hc2 h7 h8 => ⟨_, _, _, rfl, rfl, fun c4 => ?_, fun c4 => ?_⟩)
      · rw [if_pos c4] at h; exact h I2 L2 hc2 h7 h8
      · rw [if_neg c4] at h; exact h I2 L2 hc2 h7 h8
    · rw [if_neg c3] at h; exact h I L hc (fun _ _ _ _ _ _ _ => rfl) id
theorem ok_Ru_whyNot {k s : Nat} (hd : 8 ≤ d) (hc : RC I V) (hv : Inv V) (hk : k < 20) (hs : s < am_n V 113 14) (h : ∀ I' L', RC I' V → am_hi I' I → R (some (.int (s_why V k s))) (am_mk I' L', 0, 0)) : am_meth d 92 [.ref 99, .int (nI k), .int (nI s)] (am_mk I L, 0, 0) R := by
  obtain ⟨d, rfl⟩ : ∃ e, d = e + 1 := ⟨d - 1, by omega⟩
  have hn2 := hv.1.2.2.2.1.2
  refine ar_in rfl rfl rfl (r_Rules_whyNot_0 ⟨by omega, ?_⟩)
  have e13 : I 70 = V 128 := hc.2.1.2.2.2.2.2.2.2.2.2.2.2.2.1
  rw [e13]
  refine ⟨fun c => ?_, fun c => ?_⟩
  · refine ok_Ru_gather (by omega) hc hv (fun I1 L1 mm n hc1 h2 hm hg _ => ⟨_, _, rfl, rfl, ?_⟩)
    refine ok_Ru_whyBeside (by omega) hc1 hv hm hg hk hs c (fun I2 L2 hc2 h7 _ => ⟨_, _, _, rfl, rfl, ?_⟩)
    exact h I2 L2 hc2 (fun c hc => (k7_hi h7 c hc).trans (m2_hi h2 c hc))
  · unfold s_why at h
    rw [if_neg c] at h
    exact h I L hc hi_r
theorem ok_M_whyNot {k s : Nat} (hd : 8 ≤ d) (hm : RM I V) (hv : Inv V) (hx : w_Tx V) (hk : k < 20) (hs : s < am_n V 113 14) (h : ∀ I' L', RM I' V → w_mf I' I → R (some (.int (s_why V k s))) (am_mk I' L', 0, 0)) : am_meth d 165 [.ref 113, .int (nI k), .int (nI s)] (am_mk I L, 0, 0) R := by
  obtain ⟨d, rfl⟩ : ∃ e, d = e + 1 := ⟨d - 1, by omega⟩
  have hn2 := hv.1.2.2.2.1.2
  have h60 : s < 60 := by omega
  have mc := hm.1; have mf := hm.2
  have v1 := (hv.2.2.2.1.1 s h60).1
  refine ar_in rfl rfl rfl (r_M_whyNot_0 ⟨h60, ?_⟩)
  unfold s_why s_wd at h
  rw [mc 128 rfl, mc 126 rfl, mf 0 rfl, mc 125 rfl, mc 118 rfl, mc 123 rfl]
  refine ⟨fun c => ⟨fun c2 => ?_, fun c2 => ⟨am_n V 125 s, v1.2, v1.1, hk, fun c3 => ?_, fun c3 => ?_⟩⟩, fun c => ?_⟩
  · rw [if_pos c, if_pos c2] at h; exact h I L hm mf_r
  · rw [if_pos c, if_neg c2, if_pos c3] at h
    refine ok_M_meets (by omega) hm hv hs c (fun q => ⟨_, _, _, rfl, rfl, fun z => absurd z (by decide), fun _ => ?_⟩) (fun q => ⟨_, _, _, rfl, rfl, fun _ => ?_, fun z => absurd rfl z⟩)
    · rw [if_pos q, if_neg (by decide)] at h; exact h I L hm mf_r
    · rw [if_neg (c := s_meets V k s = true) (by rw [q]; decide)] at h
      refine ok_M_isLate (by omega) hm hv hk hs c (fun q2 => ⟨_, _, _, rfl, rfl, fun z => absurd z (by decide), fun _ => ?_⟩) (fun q2 => ⟨_, _, _, rfl, rfl, fun _ => ?_, fun z => absurd rfl z⟩)
      · rw [if_pos q2, if_neg (by decide)] at h; exact h I L hm mf_r
      · rw [if_neg (c := s_late V k s = true) (by rw [q2]; decide)] at h
        refine ok_M_isTooLong (by omega) hm hv hs (fun I1 L1 m1 l1 q3 => ⟨_, _, _, rfl, rfl, fun z => absurd z (by decide), fun _ => ?_⟩) (fun I1 L1 m1 l1 q3 => ⟨_, _, _, rfl, rfl, fun _ => ?_, fun z => absurd rfl z⟩)
        · rw [if_pos q3, if_neg (by decide)] at h; exact h I1 L1 m1 l1
        · rw [if_neg (c := s_visa V k s = true) (by rw [q3]; decide), if_pos rfl] at h
          refine ok_M_worthOf (by omega) m1 hv hx hk h60 (fun I2 L2 m2 l2 => ⟨_, _, _, rfl, rfl, fun c4 => ?_, fun c4 => ?_⟩)
          · rw [if_pos c4] at h; exact h I2 L2 m2 (fun c hc => (l2 c hc).trans (l1 c hc))
          · rw [if_neg c4] at h; exact h I2 L2 m2 (fun c hc => (l2 c hc).trans (l1 c hc))
  · rw [if_pos c, if_neg c2, if_neg c3] at h; exact h I L hm mf_r
  · rw [if_neg c] at h; exact h I L hm mf_r
end WY
