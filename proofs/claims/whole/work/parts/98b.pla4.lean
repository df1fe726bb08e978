/-! places: the class's best way and its call -/
section PB2
variable {d : Nat} {I V : am_V} {L : Nat → Nat → Int64} {R : am_R}
theorem E_le {m : Nat} (h6 : s_rl V ≤ 6) : s_E V m ≤ 6 * 171700000000 := by
  have h1 : ∀ n, n_sum (fun p => !m.testBit p) (fun p => 171532242000 + 20 * t_D (p + 1)) n ≤ n * 171700000000 := n_sum_le (fun p => by have := t_D_le (j := p); omega)
  have h2 := h1 (s_rl V)
  have h3 : s_rl V * 171700000000 ≤ 6 * 171700000000 := Nat.mul_le_mul_right _ h6
  exact Nat.le_trans h2 h3
/-- a filling's weight, by what it fills -/
theorem W_E {a : t_A} {m : Nat} : ∀ r, t_dm a m r → t_W (s_hN V) r a = t_s (t_c (s_c2 V)) a r + n_sum (fun p => !m.testBit p) (fun p => 171532242000 + 20 * t_D (p + 1)) r
  | 0, _ => rfl
  | r + 1, h => by
    have ih := W_E (a := a) (m := m) r (fun p hp => h p (by omega))
    have hr := h r (by omega)
    show t_W (s_hN V) r a + t_w (s_hN V) r (a r) = t_s (t_c (s_c2 V)) a r + t_c (s_c2 V) r (a r) + (if (!m.testBit r) = true then n_sum (fun p => !m.testBit p) (fun p => 171532242000 + 20 * t_D (p + 1)) r + (171532242000 + 20 * t_D (r + 1)) else n_sum (fun p => !m.testBit p) (fun p => 171532242000 + 20 * t_D (p + 1)) r)
    cases e : a r with
    | none =>
      rw [e] at hr
      rw [if_pos (by rw [← hr]; rfl), ih]
      show _ + (85766121 * 2000 + 20 * t_D (r + 1)) = _ + 0 + _
      omega
    | some k =>
      rw [e] at hr
      rw [if_neg (by rw [← hr]; exact (show ¬ false = true by decide)), ih]
      show _ + (85766121 * s_hN V k r + k * t_D (r + 1)) = _ + s_c2 V k r + _
      unfold s_c2; omega
/-- there is a filling of least weight -/
theorem B_ex (h6 : s_rl V ≤ 6) : ∃ a, t_va (s_M V) (am_n V 113 4) (s_rl V) a ∧ t_W (s_hN V) (s_rl V) a = s_B V ∧ ∀ b, t_va (s_M V) (am_n V 113 4) (s_rl V) b → s_B V ≤ t_W (s_hN V) (s_rl V) b := by
  have low : ∀ b, t_va (s_M V) (am_n V 113 4) (s_rl V) b → s_B V ≤ t_W (s_hN V) (s_rl V) b := by
    intro b hb
    have dl := t_d_lt (a := b) (s_rl V)
    have le := t_le (c := s_c2 V) (U := 17153224200000) (am_n V 113 4) _ b hb t_d_dm dl
    have mf := t_m_f (P := fun _ => true) (f := fun m => s_TL V (am_n V 113 4) m + s_E V m) (v := 17153224200000) (p := t_d b (s_rl V)) (2 ^ s_rl V) dl rfl
    rw [W_E (V := V) (a := b) (m := t_d b (s_rl V)) (s_rl V) t_d_dm]
    exact Nat.le_trans mf (Nat.add_le_add_right le _)
  have e0 : s_B V < 17153224200000 := by
    have := low (fun _ => none) ⟨fun _ _ e => (by cases e), fun _ _ _ e => (by cases e)⟩
    rw [W_E (V := V) (a := fun _ => none) (m := 0) (s_rl V) (fun p _ => by rw [Nat.zero_testBit]; rfl)] at this
    have z : ∀ r, t_s (t_c (s_c2 V)) (fun _ => none) r = 0 := by
      intro r
      induction r with
      | zero => rfl
      | succ r ih => show t_s (t_c (s_c2 V)) (fun _ => none) r + 0 = 0; rw [ih]
    rw [z] at this
    have := E_le (V := V) (m := 0) h6
    unfold s_E at this
    omega
  rcases t_m_or (P := fun _ => true) (f := fun m => s_TL V (am_n V 113 4) m + s_E V m) (v := 17153224200000) (2 ^ s_rl V) with e | ⟨m, hm, -, e⟩
  · have e : s_B V = 17153224200000 := e
    omega
  · have e : s_B V = s_TL V (am_n V 113 4) m + s_E V m := e
    obtain ⟨a, a1, a2, a3⟩ := t_at (c := s_c2 V) (A := s_M V) (U := 17153224200000) (am_n V 113 4) m hm (by show s_TL V (am_n V 113 4) m < _; omega)
    refine ⟨a, a1, ?_, low⟩
    rw [W_E (V := V) (s_rl V) a2, a3, e]; rfl
theorem B_lt (h6 : s_rl V ≤ 6) : s_B V ≤ 17153224200000 := t_m_v _
theorem ok_Ma_empty {m : Nat} (hd : 1 ≤ d) (h6 : s_rl V ≤ 6) (hs : w_sv V I) (h : R (some (.long (lN (s_E V m)))) (am_mk I L, 0, 0)) : am_meth d 73 [.ref 106, .int (nI m)] (am_mk I L, 0, 0) R := by
  obtain ⟨d, rfl⟩ : ∃ e, d = e + 1 := ⟨d - 1, by omega⟩
  refine ar_in rfl rfl rfl (r_Match_weightOfEmptyBeside_0 ?_)
  refine am_up (P := fun p => am_Run am_X0 (am_meth d) 73 R 5 [some (.ref 106), some (.int (nI m)), some (.long (lN (n_sum (fun p => !m.testBit p) (fun p => 171532242000 + 20 * t_D (p + 1)) p))), none, some (.int (nI p))] [] (am_mk I L, 0, 0)) (n := s_rl V) ?_ (fun p hp ih => ?_)
  · exact r_Match_weightOfEmptyBeside_5 ⟨fun c => absurd (hs.2.2.1 ▸ c) (nI_nlt (Nat.le_refl _) (by omega)), fun _ => h⟩
  · have e1 : n_sum (fun p => !m.testBit p) (fun p => 171532242000 + 20 * t_D (p + 1)) (p + 1) = if (!m.testBit p) = true then n_sum (fun p => !m.testBit p) (fun p => 171532242000 + 20 * t_D (p + 1)) p + (171532242000 + 20 * t_D (p + 1)) else n_sum (fun p => !m.testBit p) (fun p => 171532242000 + 20 * t_D (p + 1)) p := rfl
    rw [e1] at ih
    refine r_Match_weightOfEmptyBeside_5 ⟨fun _ => ?_, fun c => absurd (by rw [hs.2.2.1]; exact nI_lt hp (by omega)) c⟩
    rw [bt_f (by omega), bt_nI (by omega)]
    refine ⟨fun c => ⟨by omega, ?_⟩, fun c => ?_⟩
    · rw [if_pos (by rw [c]; rfl)] at ih
      rw [w6_e (by omega), show (20 : Int64) = lN 20 from rfl, show (171532242000 : Int64) = lN 171532242000 from rfl, xN_mul, xN_add, xN_add]
      exact ih
    · rw [if_neg (by rw [am_bnf c]; decide)] at ih; exact ih
theorem pl_lt (V : am_V) (p : Nat) : s_pl V p < 21 := Nat.mod_lt _ (by decide)
def s_plc (V : am_V) : Nat := s_cnt (fun p => !decide (s_pl V p = 20)) (s_rl V)
def s_plh (V : am_V) : Nat := s_B V / 85766121 % 2000
def s_pla (V : am_V) (p : Nat) : Int32 := if s_pl V p = 20 then -9 else nI (s_pl V p)
theorem ok_Ma_places (hd : 6 ≤ d) (hv : Inv V) (ha : s_alo V = true) (h6 : s_rl V ≤ 6) (hs : w_sv V I) (h : ∀ I' L', RC I' V → am_hi I' I → (∀ p, p < s_rl V → I' 107 p = s_pla V p) → I' 106 1 = nI (s_plh V) → I' 106 2 = nI (s_plc V) → R none (am_mk I' L', 0, 0)) : am_meth d 71 [.ref 106] (am_mk I L, 0, 0) R := by
  obtain ⟨d, rfl⟩ : ∃ e, d = e + 1 := ⟨d - 1, by omega⟩
  have hk := hv.1.2.1
  have hk2 := hk.2
  have tp : (2 : Nat) ^ 62 = 4611686018427387904 := by decide
  have p1 : 0 < 2 ^ s_rl V := Nat.pow_pos (by decide)
  have p2 : 2 ^ s_rl V ≤ 64 := Nat.le_trans (Nat.pow_le_pow_right (by decide) h6) (by decide)
  refine ar_in rfl rfl rfl (r_Match_makePlaces_0 ?_)
  refine ok_fillL (n := 64) (f := L 112) (by omega) mk_112 (by decide) ⟨I, va_up L 112 (am_fi (L 112) 17153224200000 64), rfl, congrArg (fun z => (z, 0, 0)) mk_s112, ?_⟩
  rintro _ rfl
  -- reading the way
  have rd : ∀ (I' : am_V) (L' : Nat → Nat → Int64), w_sv V I' → am_hi I' I → am_meth d 74 [.ref 106, .long (lN (s_B V))] (am_mk I' L', 0, 0) (am_rv (fun I6 L7 => R none (am_mk I6 L7, 0, 0))) := by
    intro I' L' f1 f2
    obtain ⟨d, rfl⟩ : ∃ e, d = e + 1 := ⟨d - 1, by omega⟩
    have bl := B_lt (V := V) h6
    refine ar_in rfl rfl rfl (r_Match_readWay_0 ?_)
    rintro _ rfl
    refine am_up (P := fun p => ∀ (I' : am_V), RC I' V → am_hi I' I → I' 106 9 = nI (s_rl V) → I' 106 2 = nI (s_cnt (fun p => !decide (s_pl V p = 20)) p) → (∀ y, y < p → I' 107 y = s_pla V y) → am_Run am_X0 (am_meth d) 74 (am_rv (fun I6 L7 => R none (am_mk I6 L7, 0, 0))) 7 [some (.ref 106), some (.long (lN (s_B V))), none, some (.int (nI p)), none] [] (am_mk I' L', 0, 0)) (n := s_rl V) (fun I' g1 g2 g3 g4 g5 => ?_) (fun p hp ih I' g1 g2 g3 g4 g5 => ?_) _ (RC_98 (fun c hc => by rw [am_vat, if_neg (by omega)]) f1.1) (hi_up (by decide) f2) f1.2.2.1 rfl (fun y hy => absurd hy (Nat.not_lt_zero y))
    · refine r_Match_readWay_7 ⟨fun c => absurd (g3 ▸ c) (nI_nlt (Nat.le_refl _) (by omega)), fun _ => ?_⟩
      rintro _ rfl
      have e1 : lN (s_B V) / 85766121 - lN (s_B V) / 85766121 / 2000 * 2000 = lN (s_plh V) := by
        rw [show (85766121 : Int64) = lN 85766121 from rfl, show (2000 : Int64) = lN 2000 from rfl, xN_div (by omega) (by omega) (by decide), xN_mod (by have := Nat.div_le_self (s_B V) 85766121; omega) (by omega) (by decide)]
        rfl
      have pl : s_plh V < 2000 := Nat.mod_lt _ (by decide)
      refine ⟨_, _, rfl, rfl, h _ L' (RC_98 (fun c hc => by rw [am_vat, if_neg (by omega)]) g1) (hi_up (by decide) g2) g5 ?_ g4⟩
      show ((lN (s_B V) / 85766121 - lN (s_B V) / 85766121 / 2000 * 2000)).toInt32 = _
      rw [e1, xN_i (by omega)]
    · have hD := t_D_p (p + 1)
      have hD2 := t_D_le (j := p)
      have pl := pl_lt V p
      have e1 : lN (s_B V) / am_w6 p - lN (s_B V) / am_w6 p / 21 * 21 = lN (s_pl V p) := by
        rw [w6_e (by omega), show (21 : Int64) = lN 21 from rfl, xN_div (by omega) (by omega) hD, xN_mod (by have := Nat.div_le_self (s_B V) (t_D (p + 1)); omega) (by omega) (by decide)]
        rfl
      refine r_Match_readWay_7 ⟨fun _ => ⟨by omega, ?_, ?_⟩, fun c => absurd (by rw [g3]; exact nI_lt hp (by omega)) c⟩
      · match p, (show p < 6 by omega) with
        | 0, _ => decide
        | 1, _ => decide
        | 2, _ => decide
        | 3, _ => decide
        | 4, _ => decide
        | 5, _ => decide
        | p + 6, q => omega
      · rw [e1, xN_i (by omega)]
        have nx : ∀ (v : Int32) (I2 : am_V), (∀ c, c < 99 ∨ 112 < c → I2 c = I' c) → I2 106 9 = nI (s_rl V) → I2 106 2 = nI (s_cnt (fun p => !decide (s_pl V p = 20)) (p + 1)) → I2 107 = upd (I' 107) p v → v = s_pla V p → am_Run am_X0 (am_meth d) 74 (am_rv (fun I6 L7 => R none (am_mk I6 L7, 0, 0))) 7 [some (.ref 106), some (.long (lN (s_B V))), none, some (.int (nI (p + 1))), none] [] (am_mk I2 L', 0, 0) := fun v I2 w1 w2 w3 w4 w5 => ih I2 (RC_98 (fun c hc => w1 c (by omega)) g1) (fun c hc => (w1 c (by omega)).trans (g2 c hc)) w2 w3 (fun y hy => by
          rw [w4]
          by_cases e : y = p
          · rw [e, upd_at, w5]
          · rw [upd_ne e]; exact g5 y (by omega))
        refine ⟨fun c => ?_, fun c => ?_⟩
        · have c : s_pl V p = 20 := (nI_eq (b := 20) (by omega) (by decide)).mp c
          rintro _ rfl
          refine ⟨fun _ => nx (-9) _ (fun c hc => by rw [am_vat, if_neg (by omega)]) g3 ?_ rfl (by unfold s_pla; rw [if_pos c]), fun z => absurd (show upd (I' 107) p (-9) p = -9 from upd_at) z⟩
          show I' 106 2 = _
          rw [g4, cnt_f (by rw [c]; decide)]
        · have c : ¬ s_pl V p = 20 := fun q => c (by rw [q]; rfl)
          rintro _ rfl
          refine ⟨fun z => absurd (show upd (I' 107) p (nI (s_pl V p)) p = -9 from z) (by rw [upd_at]; exact on_ne (by omega)), fun _ => ?_⟩
          rintro _ rfl
          refine nx (nI (s_pl V p)) _ (fun c hc => by rw [am_vat, if_neg (by omega), am_vat, if_neg (by omega)]) g3 ?_ rfl (by unfold s_pla; rw [if_neg c])
          show I' 106 2 + 1 = _
          rw [g4, nI_1, cnt_t (by rw [decide_eq_false c]; rfl)]
  -- the best of all sets
  have best : ∀ (I' : am_V) (L' : Nat → Nat → Int64), w_sv V I' → am_hi I' I → (∀ m, m < 2 ^ s_rl V → L' 112 m = lN (s_TL V (am_n V 113 4) m)) → am_Run am_X0 (am_meth d) 71 R 47 [some (.ref 106), some (.long 17153224200000), none, some (.int 0)] [] (am_mk I' L', 0, 0) := by
    intro I' L' f1 f2 f3
    refine am_up (P := fun m => am_Run am_X0 (am_meth d) 71 R 47 [some (.ref 106), some (.long (lN (t_m (fun _ => true) (fun m => s_TL V (am_n V 113 4) m + s_E V m) 17153224200000 m))), none, some (.int (nI m))] [] (am_mk I' L', 0, 0)) (n := 2 ^ s_rl V) ?_ (fun m hm ih => ?_)
    · refine r_Match_makePlaces_47 (by omega) ⟨fun c => ?_, fun _ => rd I' L' f1 f2⟩
      rw [f1.2.2.1, sh_2 (by omega)] at c
      exact absurd c (nI_nlt (Nat.le_refl _) (by omega))
    · refine r_Match_makePlaces_47 (by omega) ⟨fun _ => ⟨by omega, ?_⟩, fun c => absurd (by rw [f1.2.2.1, sh_2 (by omega)]; exact nI_lt hm (by omega)) c⟩
      refine ok_Ma_empty (by omega) h6 f1 ⟨_, _, _, rfl, rfl, ?_⟩
      dsimp only
      have b1 := TL_U (V := V) (K := am_n V 113 4) (m := m)
      have b2 := E_le (V := V) (m := m) h6
      have b3 := t_m_v (P := fun _ => true) (f := fun m => s_TL V (am_n V 113 4) m + s_E V m) (v := 17153224200000) m
      rw [f3 m hm, xN_add]
      have el : lN (s_TL V (am_n V 113 4) m + s_E V m) < lN (t_m (fun _ => true) (fun m => s_TL V (am_n V 113 4) m + s_E V m) 17153224200000 m) ↔ s_TL V (am_n V 113 4) m + s_E V m < t_m (fun _ => true) (fun m => s_TL V (am_n V 113 4) m + s_E V m) 17153224200000 m := xN_lt (by omega) (by omega)
      have e2 : t_m (fun _ => true) (fun m => s_TL V (am_n V 113 4) m + s_E V m) 17153224200000 (m + 1) = if s_TL V (am_n V 113 4) m + s_E V m < t_m (fun _ => true) (fun m => s_TL V (am_n V 113 4) m + s_E V m) 17153224200000 m then s_TL V (am_n V 113 4) m + s_E V m else t_m (fun _ => true) (fun m => s_TL V (am_n V 113 4) m + s_E V m) 17153224200000 m := if_pos rfl
      rw [e2] at ih
      by_cases q : s_TL V (am_n V 113 4) m + s_E V m < t_m (fun _ => true) (fun m => s_TL V (am_n V 113 4) m + s_E V m) 17153224200000 m
      · rw [if_pos q] at ih
        rw [if_pos (el.mpr q)]; exact ih
      · rw [if_neg q] at ih
        rw [if_neg (fun w => q (el.mp w))]; exact ih
  refine am_up (P := fun k => ∀ (I' : am_V) (L' : Nat → Nat → Int64), w_sv V I' → am_hi I' I → (∀ m, m < 2 ^ s_rl V → L' 112 m = lN (s_TL V k m)) → am_Run am_X0 (am_meth d) 71 R 19 [some (.ref 106), some (.int (nI k)), none, none] [] (am_mk I' L', 0, 0)) (n := am_n V 113 4) (fun I' L' f1 f2 f3 => ?_) (fun k hk4 ih I' L' f1 f2 f3 => ?_) I _ hs hi_r (fun m hm => ?_)
  · have en : I' 16 0 = nI (am_n V 113 4) := by rw [f1.1.1.1]; exact hk.1
    exact r_Match_makePlaces_19 ⟨fun c => absurd (en ▸ c) (nI_nlt (Nat.le_refl _) (by omega)), fun _ => best I' L' f1 f2 f3⟩
  · have en : I' 16 0 = nI (am_n V 113 4) := by rw [f1.1.1.1]; exact hk.1
    refine r_Match_makePlaces_19 ⟨fun _ => ?_, fun c => absurd (by rw [en]; exact nI_lt hk4 (by omega)) c⟩
    exact ok_Ma_add (by omega) hv ha h6 f1 hk4 f3 (fun I2 L2 w1 w2 w3 => ⟨_, _, rfl, rfl, ih I2 L2 w1 (fun c hc => (w2 c hc).trans (f2 c hc)) w3⟩)
  · show (if m = 0 then (0 : Int64) else am_fi (L 112) 17153224200000 64 m) = lN (if m = 0 then 0 else 17153224200000)
    by_cases e : m = 0
    · rw [if_pos e, if_pos e]; rfl
    · rw [if_neg e, if_neg e, show am_fi (L 112) 17153224200000 64 m = 17153224200000 from if_pos (by omega)]; rfl
def o_place (V : am_V) (x : Int32) : Int32 × am_V := if s_bar V = 0 then (if 0 ≤ x ∧ x < V 113 39 then (s_pla V x.toNatClampNeg, V) else if x = 10 then (nI (s_plh V), V) else if x = 11 then (nI (s_plc V), V) else o_no V 2 (-2)) else o_no V (s_bj V) (s_bar V)
theorem I_place {x : Int32} (hv : Inv V) : Inv (o_place V x).2 := by
  unfold o_place
  split
  · split
    · exact hv
    · split
      · exact hv
      · split
        · exact hv
        · exact hv
  · exact hv
theorem C_place {x : Int32} (hd : 9 ≤ d) (hc : RC I V) (hv : Inv V) (h : ∀ I' L', RC I' (o_place V x).2 → am_hi I' I → R (some (.int (o_place V x).1)) (am_mk I' L', 0, 0)) : am_meth d 36 [.ref 0, .int x] (am_mk I L, 0, 0) R := by
  obtain ⟨d, rfl⟩ : ∃ e, d = e + 1 := ⟨d - 1, by omega⟩
  have hr := rl_12 hv
  have n7 : I 95 0 = V 113 39 := hc.1.2.2.2.2.2.2.1
  refine ar_in rfl rfl rfl (r_H_place_0 ?_)
  unfold o_place at h
  refine ok_H_bar (by omega) hc hv ⟨_, _, _, rfl, rfl, fun c => ?_, fun c => ?_⟩
  · rw [if_pos c] at h
    obtain ⟨ha, ho, h6⟩ := bar_0 hv c
    rw [n7]
    have t10 : (¬ (0 ≤ x ∧ x < V 113 39)) → ((x = 10 → am_meth d 60 [.ref 106, .ref 95] (am_mk I L, 0, 0) (am_rv (fun I7 L8 => am_meth d 71 [.ref 106] (am_mk I7 L8, 0, 0) (am_rv (fun I9 L10 => R (some (.int (I9 106 1))) (am_mk I9 L10, 0, 0)))))) ∧ (¬ x = 10 → ((x = 11 → am_meth d 60 [.ref 106, .ref 95] (am_mk I L, 0, 0) (am_rv (fun I12 L13 => am_meth d 71 [.ref 106] (am_mk I12 L13, 0, 0) (am_rv (fun I14 L15 => R (some (.int (I14 106 2))) (am_mk I14 L15, 0, 0)))))) ∧ (¬ x = 11 → am_meth d 2 [.ref 0, .int (-2 : Int32)] (am_mk I L, 0, 0) (am_ri (fun z I17 L18 => R (some (.int z)) (am_mk I17 L18, 0, 0))))))) := by
      intro q
      rw [if_neg q] at h
      refine ⟨fun c1 => ?_, fun c1 => ⟨fun c2 => ?_, fun c2 => ?_⟩⟩
      · rw [if_pos c1] at h
        refine ok_Ma_survey (by omega) hc hv ha ho h6 (fun I1 L1 g1 g2 => ⟨_, _, rfl, rfl, ?_⟩)
        refine ok_Ma_places (by omega) hv ha h6 g1 (fun I2 L2 w1 w2 w3 w4 w5 => ⟨_, _, rfl, rfl, ?_⟩)
        dsimp only
        rw [w4]; exact h I2 L2 w1 (fun c hc => (w2 c hc).trans (g2 c hc))
      · rw [if_neg c1, if_pos c2] at h
        refine ok_Ma_survey (by omega) hc hv ha ho h6 (fun I1 L1 g1 g2 => ⟨_, _, rfl, rfl, ?_⟩)
        refine ok_Ma_places (by omega) hv ha h6 g1 (fun I2 L2 w1 w2 w3 w4 w5 => ⟨_, _, rfl, rfl, ?_⟩)
        dsimp only
        rw [w5]; exact h I2 L2 w1 (fun c hc => (w2 c hc).trans (g2 c hc))
      · rw [if_neg c1, if_neg c2] at h
        exact ok_refuse (j := 2) (by omega) (by decide) (by decide) ⟨_, _, _, rfl, rfl, h _ _ (RC_no hc) (hi_up (by decide) hi_r)⟩
    refine ⟨fun c1 => t10 (fun z => absurd c1 (Int32.not_lt.mpr z.1)), fun c1 => ⟨fun c2 => ?_, fun c2 => t10 (fun z => c2 z.2)⟩⟩
    rw [if_pos ⟨Int32.not_lt.mp c1, c2⟩] at h
    rw [hr.1] at c2
    obtain ⟨p, hp, rfl⟩ := am_nat (x := x) ⟨Int32.not_lt.mp c1, c2⟩ (by omega)
    rw [nI_clamp (by omega)] at h
    refine ok_Ma_survey (by omega) hc hv ha ho h6 (fun I1 L1 g1 g2 => ⟨_, _, rfl, rfl, ?_⟩)
    refine ok_Ma_places (by omega) hv ha h6 g1 (fun I2 L2 w1 w2 w3 w4 w5 => ⟨_, _, rfl, rfl, p, by omega, rfl, ?_⟩)
    rw [w3 p hp]
    exact h I2 L2 w1 (fun c hc => (w2 c hc).trans (g2 c hc))
  · rw [if_neg c] at h
    exact ok_refX (by omega) hc c (fun I' L' a b => ⟨_, _, _, rfl, rfl, h I' L' a b⟩)
end PB2
