/-! chains: the class's call -/
section CF
variable {d : Nat} {I V : am_V} {L : Nat → Nat → Int64} {R : am_R}
theorem ar_nil {A g : Nat → Int32} : w_ar A g [] := fun j y e => by simp at e
theorem ok_Ch_find {k : Nat} (hd : 19 ≤ d) (hc : RC I V) (hv : Inv V) (ha : s_alo V = true) (ho : s_opn V = true) (hk : k < 20) (h10 : s_rl V ≤ 10) (h : ∀ I' L', RC I' V → am_hi I' I → I' 102 0 = nI (s_D V (s_bst V k (2 ^ s_rl V - 1))) → I' 102 1 = nI (s_bst V k (2 ^ s_rl V - 1)) → R none (am_mk I' L', 0, 0)) : am_meth d 44 [.ref 102, .int (nI k), .ref 95] (am_mk I L, 0, 0) R := by
  obtain ⟨d, rfl⟩ : ∃ e, d = e + 1 := ⟨d - 1, by omega⟩
  have hr := rl_12 hv
  refine ar_in rfl rfl rfl (r_Chain_find_0 ?_)
  rintro _ rfl
  have ll := srp_len (f := fun i => am_n V 126 (s_rw V i)) (p := fun i => s_may V k (s_rw V i)) (s_rl V)
  have lm : ∀ a, a ∈ s_srp (fun i => am_n V 126 (s_rw V i)) (fun i => s_may V k (s_rw V i)) (s_rl V) → a < s_rl V := fun a h => srp_mem h
  have lnd : (s_srp (fun i => am_n V 126 (s_rw V i)) (fun i => s_may V k (s_rw V i)) (s_rl V)).Nodup := by
    rw [srp_fl]; exact List.Pairwise.filter _ (srt_nd _)
  -- the search
  have last : ∀ (I' : am_V) (L' : Nat → Nat → Int64), RC I' V → am_hi I' I → w_cb V I' (s_srp (fun i => am_n V 126 (s_rw V i)) (fun i => s_may V k (s_rw V i)) (s_rl V)) → am_Run am_X0 (am_meth d) 44 R 72 [some (.ref 102), some (.int (nI k)), none, some (.int (nI 0 - 1))] [] (am_mk I' L', 0, 0) := by
    intro I' L' f1 f2 f3
    refine r_Chain_find_72 (by omega) ⟨fun _ => ?_, fun c => absurd (by decide) c⟩
    rintro _ rfl _ rfl
    have c1 : RC (va_up (va_up I' 102 (upd (I' 102) 0 0)) 102 (upd ((va_up I' 102 (upd (I' 102) 0 0)) 102) 1 0)) V := RC_98 (fun c hc => by rw [am_vat, if_neg (by omega), am_vat, if_neg (by omega)]) f1
    refine ok_Ru_gather (by omega) c1 hv (fun I2 L2 mm n g1 g2 g3 g4 g5 => ⟨_, _, rfl, rfl, ?_⟩)
    have hn2 := hv.1.2.2.2.1.2
    have z0 : I2 102 0 = nI (s_D V 0) := by
      rw [g2 102 (by decide) (by decide), D_0]; rfl
    have z1 : I2 102 1 = nI 0 := by rw [g2 102 (by decide) (by decide)]; rfl
    have z7 : I2 102 7 = I' 102 7 := by rw [g2 102 (by decide) (by decide)]; rfl
    have cb2 : w_cb V I2 (s_srp (fun i => am_n V 126 (s_rw V i)) (fun i => s_may V k (s_rw V i)) (s_rl V)) := by
      refine cb_fs (fun c h1 h2 h3 => ?_) z7 f3
      rw [g2 c h1 h2, am_vat, if_neg h3, am_vat, if_neg h3]
    have s0 : nI (s_D V 0) = 0 := by rw [D_0]; rfl
    have go := ch_search (V := V) (k := k) (l := s_srp (fun i => am_n V 126 (s_rw V i)) (fun i => s_may V k (s_rw V i)) (s_rl V)) hv ha ho hk h10 lm (by omega) _ 0 d I2 V L2 (am_rv (fun I8 L9 => R none (am_mk I8 L9, 0, 0))) mm n 0 0 rfl (Nat.zero_le _) (by rw [List.drop_zero]; omega) hv of_r (w_rc_of g1) cb2 g3 g4 (by rw [List.drop_zero]; omega) (by rw [List.drop_zero]; exact lnd) (fun a h => ?_) (by decide) (by decide) z0 z1 (fun I3 L3 B w1 w2 w3 w4 w5 w6 w7 => ⟨_, _, rfl, rfl, ?_⟩)
    · rw [s0] at go; exact go
    · rw [List.drop_zero] at h
      exact ⟨(row_o hv ha ho (lm a h)).1, Nat.zero_testBit a⟩
    · rw [List.drop_zero] at w6 w7
      have e := bst_uniq hv ha ho hk w6 w7 w5
      rw [e] at w2 w3
      refine h I3 L3 (RC_98 (fun c hc => w1.1 c (by omega) (by omega) (by omega)) g1) (fun c hc => ?_) w2 w3
      rw [w1.1 c (by omega) (by omega) (by omega), g2 c (by omega) (by omega), am_vat, if_neg (by omega), am_vat, if_neg (by omega)]
      exact f2 c hc
  -- the days that are left
  have left : ∀ m (I' : am_V) (L' : Nat → Nat → Int64), m ≤ (s_srp (fun i => am_n V 126 (s_rw V i)) (fun i => s_may V k (s_rw V i)) (s_rl V)).length → RC I' V → am_hi I' I → w_ca V I' (s_srp (fun i => am_n V 126 (s_rw V i)) (fun i => s_may V k (s_rw V i)) (s_rl V)) → (∀ i, m ≤ i → i ≤ (s_srp (fun i => am_n V 126 (s_rw V i)) (fun i => s_may V k (s_rw V i)) (s_rl V)).length → I' 105 i = nI (s_sf V ((s_srp (fun i => am_n V 126 (s_rw V i)) (fun i => s_may V k (s_rw V i)) (s_rl V)).drop i))) → am_Run am_X0 (am_meth d) 44 R 72 [some (.ref 102), some (.int (nI k)), none, some (.int (nI m - 1))] [] (am_mk I' L', 0, 0) := by
    intro m
    induction m with
    | zero => exact fun I' L' _ f1 f2 f3 f4 => last I' L' f1 f2 ⟨f3, fun i hi => f4 i (Nat.zero_le _) hi⟩
    | succ m ihm =>
      intro I' L' hm f1 f2 f3 f4
      have hm2 : m < (s_srp (fun i => am_n V 126 (s_rw V i)) (fun i => s_may V k (s_rw V i)) (s_rl V)).length := by omega
      generalize hl : s_srp (fun i => am_n V 126 (s_rw V i)) (fun i => s_may V k (s_rw V i)) (s_rl V) = l at *
      have ey : l[m]? = some l[m] := List.getElem?_eq_getElem hm2
      have ed : l.drop m = l[m] :: l.drop (m + 1) := List.drop_eq_getElem_cons hm2
      generalize l[m] = y at ey ed
      have ym := lm y (List.mem_of_getElem? ey)
      have rs := row_s hv ha ym
      have e103 : I' 103 m = nI (s_rw V y) := f3.2.1 m y ey
      have e69 : I' 69 = V 127 := f1.2.1.2.2.2.2.2.2.2.2.2.2.2.1
      have e68 : I' 68 = V 126 := f1.2.1.2.2.2.2.2.2.2.2.2.2.1
      rw [nI_pred]
      refine r_Chain_find_72 (by omega) ⟨fun c => absurd c (nI_pos (by omega)), fun _ => ⟨m + 1, by omega, nI_1 m, m, by omega, rfl, s_rw V y, e103, rs.2.2, ?_⟩⟩
      rintro _ rfl
      rw [← Int32.sub_eq_add_neg]
      refine ihm _ L' (by omega) (RC_98 (fun c hc => by rw [am_vat, if_neg (by omega)]) f1) (fun c hc => by rw [am_vat, if_neg (by omega)]; exact f2 c hc) f3 (fun i h1 h2 => ?_)
      show upd (I' 105) m (I' 105 (m + 1) + (I' 69 (s_rw V y) - I' 68 (s_rw V y) + 1)) i = _
      by_cases e : i = m
      · subst e
        rw [upd_at, f4 (i + 1) (by omega) (by omega), e69, e68, ln_e hv ha ym, nI_add, ed]; rfl
      · rw [upd_ne e]; exact f4 i (by omega) h2
  refine am_up (P := fun j => ∀ (I' : am_V) (L' : Nat → Nat → Int64), RC I' V → am_hi I' I → w_ca V I' (s_srp (fun i => am_n V 126 (s_rw V i)) (fun i => s_may V k (s_rw V i)) j) → am_Run am_X0 (am_meth d) 44 R 7 [some (.ref 102), some (.int (nI k)), some (.ref 95), some (.int (nI j))] [] (am_mk I' L', 0, 0)) (n := s_rl V) (fun I' L' f1 f2 f3 => ?_) (fun j hj ih I' L' f1 f2 f3 => ?_) _ L (RC_98 (fun c hc => by rw [am_vat, if_neg (by omega)]) hc) (hi_up (by decide) hi_r) ⟨rfl, ar_nil, ar_nil⟩
  · have en : I' 95 0 = nI (s_rl V) := f1.1.2.2.2.2.2.2.1.trans hr.1
    refine r_Chain_find_7 (by omega) ⟨fun c => absurd (en ▸ c) (nI_nlt (Nat.le_refl _) (by omega)), fun _ => ⟨_, by omega, f3.1, ?_⟩⟩
    rintro _ rfl
    show am_Run am_X0 (am_meth d) 44 R 72 [some (.ref 102), some (.int (nI k)), none, some (.int (I' 102 7 - 1))] [] _
    rw [f3.1]
    refine left _ _ L' (Nat.le_refl _) (RC_98 (fun c hc => by rw [am_vat, if_neg (by omega)]) f1) (fun c hc => by rw [am_vat, if_neg (by omega)]; exact f2 c hc) f3 (fun i h1 h2 => ?_)
    have : i = (s_srp (fun i => am_n V 126 (s_rw V i)) (fun i => s_may V k (s_rw V i)) (s_rl V)).length := by omega
    rw [this, List.drop_length]
    exact upd_at
  · have en : I' 95 0 = nI (s_rl V) := f1.1.2.2.2.2.2.2.1.trans hr.1
    have lt : nI j < I' 95 0 := by rw [en]; exact nI_lt hj (by omega)
    have e96 : I' 96 = V 146 := f1.2.1.2.2.2.2.2.2.2.2.2.2.2.2.2.2.2.1
    have rs := row_s hv ha hj
    refine r_Chain_find_7 (by omega) ⟨fun _ => ⟨fun _ => ⟨by omega, lt, ?_⟩, fun c => absurd (nI_lt (b := 10) (by omega) (by decide)) c⟩, fun c => absurd lt c⟩
    rw [e96, rs.1]
    refine ok_Ru_mayAlone (by omega) f1 hv hk rs.2.2 (fun I2 L2 g1 g2 g3 => ⟨_, _, _, rfl, rfl, fun z => absurd z (by decide), fun _ => ⟨by omega, ?_, ?_⟩⟩) (fun I2 L2 g1 g2 g3 => ⟨_, _, _, rfl, rfl, fun _ => ?_, fun z => absurd rfl z⟩)
    · rw [g2 95 (by decide) (by decide) (by decide) (by decide) (by decide) (by decide)]; exact lt
    · have e96' : I2 96 = V 146 := g1.2.1.2.2.2.2.2.2.2.2.2.2.2.2.2.2.2.1
      rw [e96', rs.1, sh_2 (by omega)]
      have ca : w_ca V I2 (s_srp (fun i => am_n V 126 (s_rw V i)) (fun i => s_may V k (s_rw V i)) j) := by
        refine ⟨?_, ?_, ?_⟩
        · rw [g2 102 (by decide) (by decide) (by decide) (by decide) (by decide) (by decide)]; exact f3.1
        · rw [g2 103 (by decide) (by decide) (by decide) (by decide) (by decide) (by decide)]; exact f3.2.1
        · rw [g2 104 (by decide) (by decide) (by decide) (by decide) (by decide) (by decide)]; exact f3.2.2
      have lj := srp_len (f := fun i => am_n V 126 (s_rw V i)) (p := fun i => s_may V k (s_rw V i)) j
      refine ok_Ch_insert (by omega) hv ha g1.2.1.2.2.2.2.2.2.2.2.2.2.1 hj h10 (by omega) (fun a h => by have := srp_mem h; omega) (srp_sd j) ca (fun I3 w1 w2 => ⟨_, _, rfl, rfl, ?_⟩)
      refine ih I3 L2 (RC_98 (fun c hc => w1 c (by omega) (by omega) (by omega)) g1) (fun c hc => ?_) ?_
      · rw [w1 c (by omega) (by omega) (by omega), g2 c (by omega) (by omega) (by omega) (by omega) (by omega) (by omega)]; exact f2 c hc
      · show w_ca V I3 (if s_may V k (s_rw V j) = true then s_ins (fun i => am_n V 126 (s_rw V i)) j (s_srp (fun i => am_n V 126 (s_rw V i)) (fun i => s_may V k (s_rw V i)) j) else s_srp (fun i => am_n V 126 (s_rw V i)) (fun i => s_may V k (s_rw V i)) j)
        rw [if_pos g3]; exact w2
    · refine ih I2 L2 g1 (fun c hc => (k7_hi g2 c hc).trans (f2 c hc)) ?_
      show w_ca V I2 (if s_may V k (s_rw V j) = true then s_ins (fun i => am_n V 126 (s_rw V i)) j (s_srp (fun i => am_n V 126 (s_rw V i)) (fun i => s_may V k (s_rw V i)) j) else s_srp (fun i => am_n V 126 (s_rw V i)) (fun i => s_may V k (s_rw V i)) j)
      rw [if_neg (by rw [g3]; decide)]
      refine ⟨?_, ?_, ?_⟩
      · rw [g2 102 (by decide) (by decide) (by decide) (by decide) (by decide) (by decide)]; exact f3.1
      · rw [g2 103 (by decide) (by decide) (by decide) (by decide) (by decide) (by decide)]; exact f3.2.1
      · rw [g2 104 (by decide) (by decide) (by decide) (by decide) (by decide) (by decide)]; exact f3.2.2
theorem C_chain {k w : Int32} (hd : 20 ≤ d) (hc : RC I V) (hv : Inv V) (h : ∀ I' L', RC I' (o_chain V k w).2 → am_hi I' I → R (some (.int (o_chain V k w).1)) (am_mk I' L', 0, 0)) : am_meth d 27 [.ref 0, .int k, .int w] (am_mk I L, 0, 0) R := by
  obtain ⟨d, rfl⟩ : ∃ e, d = e + 1 := ⟨d - 1, by omega⟩
  have hr := rl_12 hv
  refine ar_in rfl rfl rfl (r_H_chain_0 (by omega) ?_)
  obtain ⟨⟨n1, n2, n3, n4, n5, n6, n7, n8⟩, ⟨e1, e2, e3, e4, e5, e6, e7, e8, e9, e10, e11, e12, e13, e14, e15, e16, e17⟩, -⟩ := id hc
  rw [n1]
  unfold o_chain at h
  refine ⟨fun c => ?_, fun c => ?_⟩
  · obtain ⟨i, i1, rfl, i2⟩ := ix_k hv c
    rw [nI_clamp (by omega)] at h
    refine ok_H_alone (by omega) hc hv (fun a => ⟨_, _, _, rfl, rfl, fun z => absurd z (by decide), fun _ => ?_⟩) (fun a => ⟨_, _, _, rfl, rfl, fun _ => ?_, fun z => absurd rfl z⟩)
    · rw [if_pos ⟨c, a⟩] at h
      have sz : V 113 39 ≤ 10 → s_rl V ≤ 10 := fun c3 => by
        rw [hr.1, show (10 : Int32) = nI 10 from rfl, nI_leI (by omega) (by decide)] at c3
        exact c3
      refine ⟨fun c1 => ?_, fun c1 => ⟨fun c2 => ?_, fun c2 => ?_⟩⟩
      · rw [if_pos (Or.inl c1)] at h
        refine ok_H_open (by omega) hc hv a (fun b => ⟨_, _, _, rfl, rfl, fun z => absurd z (by decide), fun _ => ?_⟩) (fun b => ⟨_, _, _, rfl, rfl, fun _ => ?_, fun z => absurd rfl z⟩)
        · rw [if_pos b] at h
          rw [n7]
          refine ⟨fun c3 => ?_, fun c3 => ?_⟩
          · rw [if_pos c3, if_pos c1] at h
            refine ok_Ch_find (by omega) hc hv a b i1 (sz c3) (fun I2 L2 g1 g2 g3 g4 => ⟨_, _, rfl, rfl, ?_⟩)
            dsimp only
            rw [g3]; exact h I2 L2 g1 g2
          · rw [if_neg c3] at h; (exact h _ _ (RC_no hc) (hi_up (by decide) hi_r))
        · rw [if_neg (c := s_opn V = true) (by rw [b]; decide)] at h; (exact h _ _ (RC_no hc) (hi_up (by decide) hi_r))
      · rw [if_pos (Or.inr c2)] at h
        refine ok_H_open (by omega) hc hv a (fun b => ⟨_, _, _, rfl, rfl, fun z => absurd z (by decide), fun _ => ?_⟩) (fun b => ⟨_, _, _, rfl, rfl, fun _ => ?_, fun z => absurd rfl z⟩)
        · rw [if_pos b] at h
          rw [n7]
          refine ⟨fun c3 => ?_, fun c3 => ?_⟩
          · rw [if_pos c3, if_neg c1] at h
            refine ok_Ch_find (by omega) hc hv a b i1 (sz c3) (fun I2 L2 g1 g2 g3 g4 => ⟨_, _, rfl, rfl, ?_⟩)
            dsimp only
            rw [g4]; exact h I2 L2 g1 g2
          · rw [if_neg c3] at h; (exact h _ _ (RC_no hc) (hi_up (by decide) hi_r))
        · rw [if_neg (c := s_opn V = true) (by rw [b]; decide)] at h; (exact h _ _ (RC_no hc) (hi_up (by decide) hi_r))
      · rw [if_neg (fun z => z.elim c1 c2)] at h; (exact h _ _ (RC_no hc) (hi_up (by decide) hi_r))
    · rw [if_neg (fun z => by rw [a] at z; exact Bool.noConfusion z.2)] at h; (exact h _ _ (RC_no hc) (hi_up (by decide) hi_r))
  · rw [if_neg (fun z => c z.1)] at h; (exact h _ _ (RC_no hc) (hi_up (by decide) hi_r))
end CF
