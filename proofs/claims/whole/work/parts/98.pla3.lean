/-! places: the class -/
def s_hN (V : am_V) (k p : Nat) : Nat := Nat.min (s_ht V k (s_rw V p)).toNatClampNeg 240
def s_c2 (V : am_V) (k p : Nat) : Nat := 85766121 * s_hN V k p + k * t_D (p + 1)
def s_TL (V : am_V) (K m : Nat) : Nat := t_L (s_c2 V) (s_M V) (s_rl V) 17153224200000 K m
def s_E (V : am_V) (m : Nat) : Nat := n_sum (fun p => !m.testBit p) (fun p => 171532242000 + 20 * t_D (p + 1)) (s_rl V)
def s_B (V : am_V) : Nat := t_m (fun _ => true) (fun m => s_TL V (am_n V 113 4) m + s_E V m) 17153224200000 (2 ^ s_rl V)
def s_pl (V : am_V) (p : Nat) : Nat := s_B V / t_D (p + 1) % 21
theorem hN_le {V : am_V} (k p : Nat) : s_hN V k p ≤ 240 := Nat.min_le_right _ _
theorem t_D_le {j : Nat} : t_D (j + 1) ≤ 4084101 := by
  unfold t_D
  have : 21 ^ (6 - (j + 1)) ≤ 21 ^ 5 := Nat.pow_le_pow_right (by decide) (by omega)
  exact this
theorem w6_e {p : Nat} (hp : p < 6) : am_w6 p = lN (t_D (p + 1)) := by
  revert p
  decide
theorem xN_add {a b : Nat} : lN a + lN b = lN (a + b) := (Int64.ofNat_add a b).symm
theorem xN_mul {a b : Nat} : lN a * lN b = lN (a * b) := (Int64.ofNat_mul a b).symm
theorem xN_lt {a b : Nat} (ha : a < 2 ^ 62) (hb : b < 2 ^ 62) : lN a < lN b ↔ a < b := by
  have ea : (lN a).toInt = a := lg_ofNat_toInt (by omega)
  have eb : (lN b).toInt = b := lg_ofNat_toInt (by omega)
  rw [Int64.lt_iff_toInt_lt, ea, eb]
  omega
theorem xN_div {a b : Nat} (ha : a < 2 ^ 62) (hb : b < 2 ^ 62) (hb0 : 0 < b) : lN a / lN b = lN (a / b) := by
  have ea : (lN a).toInt = a := lg_ofNat_toInt (by omega)
  have eb : (lN b).toInt = b := lg_ofNat_toInt (by omega)
  have ec : (lN (a / b)).toInt = (a / b : Nat) := lg_ofNat_toInt (by have := Nat.div_le_self a b; omega)
  apply Int64.toInt_inj.mp
  rw [lg_ldiv_nonneg (by rw [ea]; omega) (by rw [eb]; omega), ea, eb, ec]
  exact (Int.natCast_ediv a b).symm
theorem xN_mod {a b : Nat} (ha : a < 2 ^ 62) (hb : b < 2 ^ 62) (hb0 : 0 < b) : lN a - lN a / lN b * lN b = lN (a % b) := by
  rw [xN_div ha hb hb0, xN_mul]
  have e : a / b * b + a % b = a := by rw [Nat.mul_comm]; exact Nat.div_add_mod a b
  have : lN a = lN (a % b) + lN (a / b * b) := by rw [xN_add, Nat.add_comm, e]
  rw [this, Int64.add_sub_cancel]
theorem xN_i {a : Nat} (ha : a < 2 ^ 31) : (lN a).toInt32 = nI a := by rw [← nI_l ha, lg_l2i_i2l]
theorem nI_xr {s t : Nat} : nI s ^^^ nI t = nI (s ^^^ t) := by
  refine bt_ext (fun k hk => ?_)
  have e : am_bt (nI s ^^^ nI t) k = (am_bt (nI s) k ^^ am_bt (nI t) k) := by
    show ((nI s ^^^ nI t).toBitVec).getLsbD k = _
    rw [Int32.toBitVec_xor, BitVec.getLsbD_xor]; rfl
  rw [e, bt_nI hk, bt_nI hk, bt_nI hk, Nat.testBit_xor]
section PK
variable {d : Nat} {I V : am_V} {L : Nat → Nat → Int64} {R : am_R}
theorem hN_e (hv : Inv V) (ha : s_alo V = true) {k p : Nat} (hk : k < 20) (hp : p < s_rl V) : s_ht V k (s_rw V p) = nI (s_hN V k p) := by
  obtain ⟨x, hx, e⟩ := ht_ix hv hk (row_s hv ha hp).2.2
  unfold s_hN
  rw [e, nI_clamp (by omega)]
  rw [show Nat.min x 240 = x from Nat.min_eq_left (by omega)]
theorem c2_le {k p : Nat} (hk : k < 20) : s_c2 V k p ≤ 30000000000 := by
  have h1 := hN_le (V := V) k p
  have h2 : k * t_D (p + 1) ≤ 20 * 4084101 := Nat.mul_le_mul (by omega) t_D_le
  unfold s_c2; omega
theorem TL_U {K m : Nat} : s_TL V K m ≤ 17153224200000 := t_U K m
theorem TL_0 {K : Nat} : s_TL V (K + 1) 0 = s_TL V K 0 := by
  show t_m (fun p => s_M V K p && (0 : Nat).testBit p) _ _ _ = _
  have : ∀ r (f : Nat → Nat) v, t_m (fun p => s_M V K p && (0 : Nat).testBit p) f v r = v := by
    intro r f v
    induction r with
    | zero => rfl
    | succ r ih =>
      unfold t_m
      rw [if_neg (by rw [Nat.zero_testBit, Bool.and_false]; decide)]; exact ih
  exact this _ _ _
theorem sv_x {I' : am_V} (h : w_sv V I) (hc : ∀ c, c < 99 ∨ c = 106 ∨ c = 108 ∨ c = 109 → I' c = I c) : w_sv V I' := by
  obtain ⟨a, b, c, e, f⟩ := h
  refine ⟨RC_98 (fun x hx => hc x (by omega)) a, ?_, ?_, fun p hp => ?_, fun p hp => ?_⟩
  · rw [hc 74 (by omega)]; exact b
  · rw [hc 106 (by omega)]; exact c
  · rw [hc 108 (by omega)]; exact e p hp
  · rw [hc 109 (by omega)]; exact f p hp
theorem xr_lt {m p : Nat} (hm : m < 64) (hp : p < 6) (h : m.testBit p = true) : m ^^^ 2 ^ p < m := by
  have : ∀ m, m < 64 → ∀ p, p < 6 → m.testBit p = true → m ^^^ 2 ^ p < m := by decide +kernel
  exact this m hm p hp h
theorem ok_Ma_add {k : Nat} (hd : 4 ≤ d) (hv : Inv V) (ha : s_alo V = true) (h6 : s_rl V ≤ 6) (hs : w_sv V I) (hk : k < am_n V 113 4) (hL : ∀ m, m < 2 ^ s_rl V → L 112 m = lN (s_TL V k m)) (h : ∀ I' L', w_sv V I' → am_hi I' I → (∀ m, m < 2 ^ s_rl V → L' 112 m = lN (s_TL V (k + 1) m)) → R none (am_mk I' L', 0, 0)) : am_meth d 72 [.ref 106, .int (nI k)] (am_mk I L, 0, 0) R := by
  obtain ⟨d, rfl⟩ : ∃ e, d = e + 1 := ⟨d - 1, by omega⟩
  have k20 : k < 20 := by have := hv.1.2.1.2; omega
  have p1 : 0 < 2 ^ s_rl V := Nat.pow_pos (by decide)
  have p2 : 2 ^ s_rl V ≤ 64 := Nat.le_trans (Nat.pow_le_pow_right (by decide) h6) (by decide)
  have tp : (2 : Nat) ^ 62 = 4611686018427387904 := by decide
  refine ar_in rfl rfl rfl (r_Match_addKeeperToWays_0 ?_)
  have sets : ∀ (I' : am_V), w_sv V I' → am_hi I' I → (∀ p, p < s_rl V → I' 111 p = nI (s_hN V k p)) → ∀ m (L' : Nat → Nat → Int64), m < 2 ^ s_rl V → (∀ x, x < 2 ^ s_rl V → L' 112 x = if m < x then lN (s_TL V (k + 1) x) else lN (s_TL V k x)) → am_Run am_X0 (am_meth d) 72 R 45 [some (.ref 106), some (.int (nI k)), some (.int (nI m)), none, none, none] [] (am_mk I' L', 0, 0) := by
    intro I' f1 f2 f3 m
    induction m with
    | zero =>
      intro L' hm f4
      refine r_Match_addKeeperToWays_45 ⟨fun _ => h I' L' f1 f2 (fun x hx => ?_), fun c => absurd (by decide) c⟩
      rw [f4 x hx]
      by_cases e : 0 < x
      · rw [if_pos e]
      · rw [if_neg e, show x = 0 from by omega, TL_0]
    | succ m ihm =>
      intro L' hm f4
      refine r_Match_addKeeperToWays_45 ⟨fun c => absurd c (nI_nle (by omega) (by omega)), fun _ => ?_⟩
      refine am_up (P := fun p => ∀ (L' : Nat → Nat → Int64), (∀ x, x < 2 ^ s_rl V → L' 112 x = if m + 1 < x then lN (s_TL V (k + 1) x) else if x = m + 1 then lN (t_m (fun p => s_M V k p && (m + 1).testBit p) (fun p => s_TL V k ((m + 1) ^^^ 2 ^ p) + s_c2 V k p) (s_TL V k (m + 1)) p) else lN (s_TL V k x)) → am_Run am_X0 (am_meth d) 72 R 51 [some (.ref 106), some (.int (nI k)), some (.int (nI (m + 1))), some (.int (nI p)), none, none] [] (am_mk I' L', 0, 0)) (n := s_rl V) (fun L' g1 => ?_) (fun p hp ih L' g1 => ?_) L' (fun x hx => ?_)
      · refine r_Match_addKeeperToWays_51 (by omega) ⟨fun c => absurd (f1.2.2.1 ▸ c) (nI_nlt (Nat.le_refl _) (by omega)), fun _ => ?_⟩
        rw [nI_m1]
        refine ihm L' (by omega) (fun x hx => ?_)
        rw [g1 x hx]
        by_cases e1 : m + 1 < x
        · rw [if_pos e1, if_pos (by omega)]
        · rw [if_neg e1]
          by_cases e2 : x = m + 1
          · subst e2; rw [if_pos rfl, if_pos (by omega)]; rfl
          · rw [if_neg e2, if_neg (by omega)]
      · have step : ∀ v, (v = t_m (fun p => s_M V k p && (m + 1).testBit p) (fun p => s_TL V k ((m + 1) ^^^ 2 ^ p) + s_c2 V k p) (s_TL V k (m + 1)) (p + 1)) → ∀ L2 : Nat → Nat → Int64, (∀ x, x < 2 ^ s_rl V → L2 112 x = if x = m + 1 then lN v else L' 112 x) → am_Run am_X0 (am_meth d) 72 R 51 [some (.ref 106), some (.int (nI k)), some (.int (nI (m + 1))), some (.int (nI (p + 1))), none, none] [] (am_mk I' L2, 0, 0) := fun v ev L2 w => ih L2 (fun x hx => by
          rw [w x hx]
          by_cases e2 : x = m + 1
          · rw [if_pos e2, if_neg (by omega), if_pos e2, ev]
          · rw [if_neg e2, g1 x hx, if_neg e2]
            by_cases e1 : m + 1 < x
            · rw [if_pos e1, if_pos e1]
            · rw [if_neg e1, if_neg e1, if_neg e2])
        have gm : L' 112 (m + 1) = lN (t_m (fun p => s_M V k p && (m + 1).testBit p) (fun p => s_TL V k ((m + 1) ^^^ 2 ^ p) + s_c2 V k p) (s_TL V k (m + 1)) p) := by
          rw [g1 (m + 1) hm, if_neg (Nat.lt_irrefl _), if_pos rfl]
        have stay : (s_M V k p && (m + 1).testBit p) = false → am_Run am_X0 (am_meth d) 72 R 51 [some (.ref 106), some (.int (nI k)), some (.int (nI (m + 1))), some (.int (nI (p + 1))), none, none] [] (am_mk I' L', 0, 0) := fun q => step _ rfl L' (fun x hx => by
          by_cases e2 : x = m + 1
          · rw [if_pos e2, e2, gm]
            conv => rhs; unfold t_m
            rw [if_neg (by rw [q]; decide)]
          · rw [if_neg e2])
        refine r_Match_addKeeperToWays_51 (by omega) ⟨fun _ => ?_, fun c => absurd (by rw [f1.2.2.1]; exact nI_lt hp (by omega)) c⟩
        rw [bt_f (by omega), bt_nI (by omega)]
        refine ⟨fun c => stay (by rw [c, Bool.and_false]), fun c => ⟨by omega, by omega, ?_⟩⟩
        have c := am_bnf c
        rw [f1.2.2.2.2 p hp k (by omega)]
        refine ⟨fun c2 => ⟨by omega, by omega, (m + 1) ^^^ 2 ^ p, ?_, ?_, ?_⟩, fun c2 => stay (by rw [Bool.eq_false_iff.mpr c2]; rfl)⟩
        · have := xr_lt (by omega) (by omega) c; omega
        · rw [sh_2 (by omega), nI_xr]
        · have xl := xr_lt (by omega) (by omega) c
          have go : L' 112 ((m + 1) ^^^ 2 ^ p) = lN (s_TL V k ((m + 1) ^^^ 2 ^ p)) := by
            rw [g1 _ (by omega), if_neg (by omega), if_neg (by omega)]
          have ew : (I' 111 p).toInt64 * 85766121 + (nI k).toInt64 * am_w6 p = lN (s_c2 V k p) := by
            have h240 := hN_le (V := V) k p
            rw [f3 p hp, nI_l (by omega), nI_l (by omega), w6_e (by omega), show (85766121 : Int64) = lN 85766121 from rfl, xN_mul, xN_mul, xN_add, Nat.mul_comm (s_hN V k p)]
            rfl
          have b1 := TL_U (V := V) (K := k) (m := (m + 1) ^^^ 2 ^ p)
          have b2 := c2_le (V := V) (p := p) k20
          have b3 := TL_U (V := V) (K := k) (m := m + 1)
          have b4 := t_m_v (P := fun p => s_M V k p && (m + 1).testBit p) (f := fun p => s_TL V k ((m + 1) ^^^ 2 ^ p) + s_c2 V k p) (v := s_TL V k (m + 1)) p
          rintro L11 e11
          rw [go, ew, gm, xN_add] at e11
          refine step _ rfl L11 (fun x hx => ?_)
          rw [e11]
          show (if x = m + 1 then _ else L' 112 x) = _
          by_cases e2 : x = m + 1
          · rw [if_pos e2, if_pos e2]
            conv => rhs; unfold t_m
            rw [if_pos (c := (s_M V k p && (m + 1).testBit p) = true) (by rw [c2, c]; rfl)]
            have el : lN (s_TL V k ((m + 1) ^^^ 2 ^ p) + s_c2 V k p) < lN (t_m (fun p => s_M V k p && (m + 1).testBit p) (fun p => s_TL V k ((m + 1) ^^^ 2 ^ p) + s_c2 V k p) (s_TL V k (m + 1)) p) ↔ s_TL V k ((m + 1) ^^^ 2 ^ p) + s_c2 V k p < t_m (fun p => s_M V k p && (m + 1).testBit p) (fun p => s_TL V k ((m + 1) ^^^ 2 ^ p) + s_c2 V k p) (s_TL V k (m + 1)) p := xN_lt (by omega) (by omega)
            by_cases q : s_TL V k ((m + 1) ^^^ 2 ^ p) + s_c2 V k p < t_m (fun p => s_M V k p && (m + 1).testBit p) (fun p => s_TL V k ((m + 1) ^^^ 2 ^ p) + s_c2 V k p) (s_TL V k (m + 1)) p
            · rw [if_pos (el.mpr q), if_pos q]
            · rw [if_neg (fun w => q (el.mp w)), if_neg q]
          · rw [if_neg e2, if_neg e2]
      · rw [f4 x hx]
        by_cases e1 : m + 1 < x
        · rw [if_pos e1, if_pos e1]
        · rw [if_neg e1, if_neg e1]
          by_cases e2 : x = m + 1
          · rw [if_pos e2, e2]; rfl
          · rw [if_neg e2]
  refine am_up (P := fun p => ∀ (I' : am_V), w_sv V I' → am_hi I' I → (∀ y, y < p → I' 111 y = nI (s_hN V k y)) → am_Run am_X0 (am_meth d) 72 R 2 [some (.ref 106), some (.int (nI k)), some (.int (nI p)), none, none, none] [] (am_mk I' L, 0, 0)) (n := s_rl V) (fun I' f1 f2 f3 => ?_) (fun p hp ih I' f1 f2 f3 => ?_) I hs hi_r (fun y hy => absurd hy (Nat.not_lt_zero y))
  · refine r_Match_addKeeperToWays_2 ⟨fun c => absurd (f1.2.2.1 ▸ c) (nI_nlt (Nat.le_refl _) (by omega)), fun _ => ?_⟩
    rw [f1.2.2.1, sh_2 (by omega), show nI (2 ^ s_rl V) - 1 = nI (2 ^ s_rl V - 1) from by
      conv => lhs; rw [show 2 ^ s_rl V = (2 ^ s_rl V - 1) + 1 from by omega]
      exact nI_pred _]
    exact sets I' f1 f2 f3 (2 ^ s_rl V - 1) L (by omega) (fun x hx => by rw [if_neg (by omega)]; exact hL x hx)
  · refine r_Match_addKeeperToWays_2 ⟨fun _ => ⟨by omega, ?_⟩, fun c => absurd (by rw [f1.2.2.1]; exact nI_lt hp (by omega)) c⟩
    rw [f1.2.2.2.1 p hp]
    refine ok_Ru_hoursTo (by omega) f1.1 hv k20 (row_s hv ha hp).2.2 ⟨_, _, _, rfl, rfl, ?_⟩
    rintro _ rfl
    refine ih _ (sv_x f1 (fun c hc => by rw [am_vat, if_neg (by omega)])) (hi_up (by decide) f2) (fun y hy => ?_)
    show upd (I' 111) p (s_ht V k (s_rw V p)) y = _
    by_cases e : y = p
    · subst e; rw [upd_at, hN_e hv ha k20 hp]
    · rw [upd_ne e]; exact f3 y (by omega)
end PK
