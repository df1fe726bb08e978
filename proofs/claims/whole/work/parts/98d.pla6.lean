/-! places: the reference's best way -/
theorem nI_sb {a b : Nat} (h : b ≤ a) : nI a - nI b = nI (a - b) := by
  have e := nI_add (a - b) b
  rw [show a - b + b = a from by omega] at e
  rw [← e, Int32.add_sub_cancel]
def s_Q (r p : Nat) : Nat := t_d (fun i => if p ≤ i then some 0 else none) r
theorem Q_bt {r p x : Nat} : (s_Q r p).testBit x = (decide (x < r) && decide (p ≤ x)) := by
  unfold s_Q
  rw [t_d_bt]
  by_cases c : p ≤ x
  · rw [if_pos c, decide_eq_true c]; rfl
  · rw [if_neg c, decide_eq_false c]; rfl
theorem Q_0 {r : Nat} : s_Q r 0 = 2 ^ r - 1 := Nat.eq_of_testBit_eq (fun x => by rw [Q_bt, Nat.testBit_two_pow_sub_one, decide_eq_true (Nat.zero_le x), Bool.and_true])
theorem Q_off {r p : Nat} (hp : p < 32) : nI (s_Q r p) &&& ((1 <<< (nI p &&& 31)) ^^^ -1) = nI (s_Q r (p + 1)) := bt_ext (fun x hx => by
  rw [bt_off hp hx, bt_nI hx, bt_nI hx, Q_bt, Q_bt, Bool.and_assoc]
  congr 1
  by_cases c : x = p
  · subst c; rw [decide_eq_true rfl, decide_eq_true (Nat.le_refl x), decide_eq_false (show ¬ x + 1 ≤ x by omega)]; rfl
  · rw [decide_eq_false c, show (!false) = true from rfl, Bool.and_true]
    congr 1
    apply propext
    omega)
theorem s_mo {f : Nat → Option Nat → Nat} {a : t_A} {p : Nat} : ∀ j, t_s f a p ≤ t_s f a (p + j)
  | 0 => Nat.le_refl _
  | j + 1 => Nat.le_trans (s_mo j) (Nat.le_add_right _ _)
theorem s_mo2 {f : Nat → Option Nat → Nat} {a : t_A} {p r : Nat} (h : p ≤ r) : t_s f a p ≤ t_s f a r := by
  have := s_mo (f := f) (a := a) (p := p) (r - p)
  rw [show p + (r - p) = r from by omega] at this; exact this
def s_G (V : am_V) (u l m : Nat) : Nat := t_G (s_hN V) (t_An (s_M V) u l) (s_rl V) 100000 (am_n V 113 4) m
theorem G_le {V : am_V} {u l m : Nat} : s_G V u l m ≤ 60000 := by
  rcases G_at (c := s_hN V) (A := t_An (s_M V) u l) (r := s_rl V) (U := 100000) (n := am_n V 113 4) m with e | ⟨x, -, -, e⟩
  · have e : s_G V u l m = 0 := e
    omega
  · have e : s_G V u l m = 10000 * s_cnt (fun p => x.testBit p) 6 - t_L (s_hN V) (t_An (s_M V) u l) (s_rl V) 100000 (am_n V 113 4) x := e
    have := cnt_le (S := fun p => x.testBit p) 6
    omega
section GO
variable {d : Nat} {I V : am_V} {L : Nat → Nat → Int64} {R : am_R} {u l : Nat}
theorem ok_M_goodness (hd : 2 ≤ d) (hv : Inv V) (ha : s_alo V = true) (h6 : s_rl V ≤ 6) (hp0 : w_pv V I) (h : ∀ I', w_ff I' I → R (some (.int (nI (s_G V u l 64)))) (am_mk I' L, 0, 0)) : am_meth d 231 [.ref 113, .int (nI u), .int (nI l)] (am_mk I L, 0, 0) R := by
  obtain ⟨d, rfl⟩ : ∃ e, d = e + 1 := ⟨d - 1, by omega⟩
  refine ar_in rfl rfl rfl (r_M_goodness_0 ?_)
  refine ok_M_fill (by omega) hv ha h6 hp0 (fun I' f1 f2 => ⟨_, _, rfl, rfl, ?_⟩)
  refine am_up (P := fun m => am_Run am_X0 (am_meth d) 231 R 11 [some (.ref 113), none, none, some (.int (nI (s_G V u l m))), some (.int (nI m)), none] [] (am_mk I' L, 0, 0)) (n := 64) ?_ (fun m hm ih => ?_)
  · exact r_M_goodness_11 ⟨fun c => absurd c (by decide), fun _ => h I' f1⟩
  · have fm := f2 m hm
    have eG : s_G V u l (m + 1) = if s_TF V u l (am_n V 113 4) m < 100000 ∧ s_G V u l m < 10000 * s_pc m - s_TF V u l (am_n V 113 4) m then 10000 * s_pc m - s_TF V u l (am_n V 113 4) m else s_G V u l m := rfl
    rw [eG] at ih
    have gl := G_le (V := V) (u := u) (l := l) (m := m)
    refine r_M_goodness_11 ⟨fun _ => ⟨hm, fun c => ?_, fun c => ?_⟩, fun c => absurd (nI_lt (b := 64) hm (by decide)) c⟩
    · rw [if_neg (fun z => by
        rw [(fm.1 z.1).1] at c
        have : s_pc m ≤ 6 := cnt_le 6
        exact absurd c (nI_pos (by omega)))] at ih
      exact ih
    · have re : s_TF V u l (am_n V 113 4) m < 100000 := Classical.byContradiction (fun q => c (by rw [fm.2 q]; decide))
      have fb := FB h6 re
      rw [(fm.1 re).1, (fm.1 re).2, show (10000 : Int32) = nI 10000 from rfl, pk_mul, nI_sb (by omega), Nat.mul_comm, nI_leI (by omega) (by omega)]
      refine ⟨fun c2 => ?_, fun c2 => ?_⟩
      · rw [if_neg (fun z => by omega)] at ih; exact ih
      · rw [if_pos ⟨re, by omega⟩] at ih; exact ih
theorem pv_fr {I' : am_V} (h : w_pv V I) (hf : ∀ j, am_pf j = true → I' 113 j = I 113 j) (hc : ∀ c, c ≠ 113 → c ≠ 151 → c ≠ 152 → c ≠ 155 → I' c = I c) : w_pv V I' := by
  obtain ⟨a, b, c⟩ := h
  refine ⟨⟨fun x hx => ?_, fun j hj => ?_⟩, fun k hk => ?_, fun k hk => ?_⟩
  · rw [hc x (by simp only [am_pc, decide_eq_true_eq] at hx; omega) (by simp only [am_pc, decide_eq_true_eq] at hx; omega) (by simp only [am_pc, decide_eq_true_eq] at hx; omega) (by simp only [am_pc, decide_eq_true_eq] at hx; omega)]; exact a.1 x hx
  · rw [hf j hj]; exact a.2 j hj
  · rw [hc 153 (by decide) (by decide) (by decide) (by decide)]; exact b k hk
  · rw [hc 154 (by decide) (by decide) (by decide) (by decide)]; exact c k hk
/-- what stands when the places below p are filled as a fills them -/
def w_mk (V : am_V) (a : t_A) (J I : am_V) (p : Nat) : Prop := w_pv V I ∧ am_lo I J ∧ (∀ i, i < p → I 155 i = am_on (-9) (a i)) ∧ I 113 50 = nI (t_s (t_c (s_hN V)) a p) ∧ I 113 51 = nI (t_s t_1 a p)
theorem mk_ff {a : t_A} {J I' : am_V} {p : Nat} (f : w_ff I' I) (h : w_mk V a J I p) : w_mk V a J I' p := by
  obtain ⟨h1, h2, h3, h4, h5⟩ := h
  refine ⟨pv_fr h1 (fun j _ => by rw [f 113 (by decide) (by decide)]) (fun c _ c2 c3 _ => f c c2 c3), fun c hc => (f c (by omega) (by omega)).trans (h2 c hc), fun i hi => ?_, ?_, ?_⟩
  · rw [f 155 (by decide) (by decide)]; exact h3 i hi
  · rw [f 113 (by decide) (by decide)]; exact h4
  · rw [f 113 (by decide) (by decide)]; exact h5
theorem ok_M_makePlaces0 {a : t_A} (hd : 10 ≤ d) (hm : RM I V) (hv : Inv V) (hx : w_Tx V) (ha : s_alo V = true) (h6 : s_rl V ≤ 6) (va : t_va (s_M V) (am_n V 113 4) (s_rl V) a) (hmin : ∀ b, t_va (s_M V) (am_n V 113 4) (s_rl V) b → t_W (s_hN V) (s_rl V) a ≤ t_W (s_hN V) (s_rl V) b) (h : ∀ I' L', w_mk V a I I' (s_rl V) → R none (am_mk I' L', 0, 0)) : am_meth d 230 [.ref 113] (am_mk I L, 0, 0) R := by
  obtain ⟨d, rfl⟩ : ∃ e, d = e + 1 := ⟨d - 1, by omega⟩
  have hk := hv.1.2.1
  have hk2 := hk.2
  have hr := rl_12 hv
  have hc : ∀ k p, s_hN V k p ≤ 240 := hN_le
  have tg := t_gs (c := s_hN V) (a := a) (n := 0) hc (s_rl V)
  refine ar_in rfl rfl rfl (r_M_makePlaces_0 ?_)
  refine ok_M_prepare (by omega) hm hv hx ha h6 (fun I1 L1 p1 p2 => ⟨_, _, rfl, rfl, ?_⟩)
  have lo1 : am_lo I1 I := pf_lo p2
  have e1 : (1 : Int32) <<< (I1 113 39 &&& 31) - 1 = nI (s_Q (s_rl V) 0) := by
    rw [p1.1.2 39 rfl, hr.1, sh_2 (by show s_rl V < 31; omega), Q_0, show (1 : Int32) = nI 1 from rfl, nI_sb (Nat.pow_pos (by decide))]
  dsimp only
  rw [e1]
  refine ok_M_goodness (u := 0) (l := s_Q (s_rl V) 0) (by omega) hv ha h6 p1 (fun I2 f2 => ⟨_, _, _, rfl, rfl, ?_⟩)
  have k0 := key_0 (U := 100000) hc h6 (Nat.le_refl _) (by omega) va hmin
  rw [← Q_0] at k0
  have k0 : s_G V 0 (s_Q (s_rl V) 0) 64 = t_s (t_g (s_hN V)) a (s_rl V) := k0
  rw [k0]
  rintro _ rfl _ rfl
  have pv2 : w_pv V I2 := pv_fr p1 (fun j _ => by rw [f2 113 (by decide) (by decide)]) (fun c _ c2 c3 _ => f2 c c2 c3)
  refine am_up (P := fun p => ∀ (I' : am_V) (u : Nat), w_mk V a I I' p → (∀ x, u.testBit x = true ↔ ∃ i, i < p ∧ a i = some x) → am_Run am_X0 (am_meth d) 230 R 35 [some (.ref 113), some (.int (nI u)), some (.int (nI (s_Q (s_rl V) p))), some (.int (nI (t_s (t_g (s_hN V)) a (s_rl V) - t_s (t_g (s_hN V)) a p))), some (.int (nI p)), none, none] [] (am_mk I' L1, 0, 0)) (n := s_rl V) (fun I' u w _ => ?_) (fun p hp ih I' u w hu => ?_) _ 0 ?_ ?_
  · have en : I' 113 39 = nI (s_rl V) := by rw [w.1.1.2 39 rfl]; exact hr.1
    exact r_M_makePlaces_35 ⟨fun c => absurd (en ▸ c) (nI_nlt (Nat.le_refl _) (by omega)), fun _ => h I' L1 w⟩
  · have en : I' 113 39 = nI (s_rl V) := by rw [w.1.1.2 39 rfl]; exact hr.1
    refine r_M_makePlaces_35 ⟨fun _ => ⟨by omega, ?_⟩, fun c => absurd (by rw [en]; exact nI_lt hp (by omega)) c⟩
    rintro _ rfl
    rw [Q_off (by omega)]
    have sm := s_mo2 (f := t_g (s_hN V)) (a := a) (show p ≤ s_rl V by omega)
    have sm1 := s_mo2 (f := t_g (s_hN V)) (a := a) (show p + 1 ≤ s_rl V by omega)
    have sp1 : t_s (t_g (s_hN V)) a (p + 1) = t_s (t_g (s_hN V)) a p + t_g (s_hN V) p (a p) := rfl
    have hl : ∀ q, (s_Q (s_rl V) (p + 1)).testBit q = true ↔ p < q ∧ q < s_rl V := fun q => by
      rw [Q_bt, Bool.and_eq_true_iff, decide_eq_true_eq, decide_eq_true_eq]; omega
    have w0 : w_mk V a I (va_up I' 155 (upd (I' 155) p (-9))) p := by
      obtain ⟨h1, h2, h3, h4, h5⟩ := w
      refine ⟨pv_fr h1 (fun j _ => rfl) (fun c _ _ _ c4 => by rw [am_vat, if_neg c4]), lo_up (by decide) h2, fun i hi => ?_, h4, h5⟩
      show upd (I' 155) p (-9) i = _
      rw [upd_ne (by omega)]; exact h3 i hi
    refine am_up (P := fun k => ∀ (I' : am_V), w_mk V a I I' p → I' 155 p = -9 → k ≤ t_dg (a p) → am_Run am_X0 (am_meth d) 230 R 65 [some (.ref 113), some (.int (nI u)), some (.int (nI (s_Q (s_rl V) (p + 1)))), some (.int (nI (t_s (t_g (s_hN V)) a (s_rl V) - t_s (t_g (s_hN V)) a p))), some (.int (nI p)), some (.int (nI k)), none] [] (am_mk I' L1, 0, 0)) (n := am_n V 113 4) (fun I' w e9 hk9 => ?_) (fun k hk4 ih2 I' w e9 hk9 => ?_) _ w0 upd_at (Nat.zero_le _)
    · -- nobody
      have e4 : I' 113 4 = nI (am_n V 113 4) := by rw [w.1.1.2 4 rfl]; exact hk.1
      have an : a p = none := by
        cases e : a p with
        | none => rfl
        | some k => rw [e] at hk9; have := (va.1 p k e).2.1; have hk9 : am_n V 113 4 ≤ k := hk9; omega
      refine r_M_makePlaces_65 ⟨fun c => absurd (e4 ▸ c) (nI_nlt (Nat.le_refl _) (by omega)), fun _ => ?_⟩
      have ih := ih I' u ⟨w.1, w.2.1, fun i hi => ?_, ?_, ?_⟩ (fun x => ?_)
      · rw [sp1, an] at ih; exact ih
      · by_cases e : i = p
        · rw [e, e9, an]; rfl
        · exact w.2.2.1 i (by omega)
      · show _ = nI (t_s (t_c (s_hN V)) a p + t_c (s_hN V) p (a p))
        rw [an]; exact w.2.2.2.1
      · show _ = nI (t_s t_1 a p + t_1 p (a p))
        rw [an]; exact w.2.2.2.2
      · rw [hu x]
        refine ⟨fun ⟨i, hi, e⟩ => ⟨i, by omega, e⟩, fun ⟨i, hi, e⟩ => ⟨i, ?_, e⟩⟩
        by_cases q : i = p
        · rw [q, an] at e; cases e
        · omega
    · have e4 : I' 113 4 = nI (am_n V 113 4) := by rw [w.1.1.2 4 rfl]; exact hk.1
      refine r_M_makePlaces_65 ⟨fun _ => ⟨by omega, fun _ => ?_, fun z => absurd (by rw [e9]; decide) z⟩, fun c => absurd (by rw [e4]; exact nI_lt hk4 (by omega)) c⟩
      rw [bt_t (by omega), bt_nI (by omega), bt_f (by omega), w.1.2.1 k hk4 p hp, sh_2 (by omega), nI_or]
      have h240 := hN_le (V := V) k p
      have e154 : I' 154 (6 * k + p) = nI (s_hN V k p) := by rw [w.1.2.2 k hk4 p hp]; exact hN_e hv ha (by omega) hp
      have gl := G_le (V := V) (u := u ||| 2 ^ k) (l := s_Q (s_rl V) (p + 1)) (m := 64)
      have e5 : (10000 : Int32) - I' 154 (6 * k + p) = nI (10000 - s_hN V k p) := by rw [e154, show (10000 : Int32) = nI 10000 from rfl, nI_sb (by omega)]
      by_cases q : k < t_dg (a p)
      · refine ⟨fun _ => ih2 I' w e9 q, fun c => ⟨by omega, fun _ => ih2 I' w e9 q, fun c2 => ⟨6 * k + p, by omega, nI_k6 k p, ?_⟩⟩⟩
        refine ok_M_goodness (u := u ||| 2 ^ k) (l := s_Q (s_rl V) (p + 1)) (by omega) hv ha h6 w.1 (fun I3 f3 => ⟨_, _, _, rfl, rfl, ?_⟩)
        have k2 := key_2 (U := 100000) hc h6 (Nat.le_refl _) (by omega) va hmin hu hl hp hk4 (am_bnf c2) (Bool.eq_false_iff.mpr c) q
        have k2 : 10000 - s_hN V k p + s_G V (u ||| 2 ^ k) (s_Q (s_rl V) (p + 1)) 64 + t_s (t_g (s_hN V)) a p ≠ t_s (t_g (s_hN V)) a (s_rl V) := k2
        dsimp only
        rw [e5, nI_add, nI_eq (by omega) (by omega)]
        refine ⟨fun z => absurd (show _ + t_s (t_g (s_hN V)) a p = _ by omega) k2, fun _ => ih2 I3 (mk_ff f3 w) (by rw [f3 155 (by decide) (by decide)]; exact e9) q⟩
      · have ak : a p = some k := by
          cases e : a p with
          | none => rw [e] at q; have q : ¬ k < 20 := q; omega
          | some j =>
            rw [e] at q hk9
            have q : ¬ k < j := q
            have hk9 : k ≤ j := hk9
            rw [show j = k from by omega]
        have ku : u.testBit k = false := by
          rcases z : u.testBit k with _ | _
          · rfl
          · obtain ⟨i, hi, e⟩ := (hu k).mp z
            have := va.2 i p k e ak
            omega
        have kM := (va.1 p k ak).2.2
        refine ⟨fun z => absurd z (by rw [ku]; decide), fun _ => ⟨by omega, fun z => absurd z (by rw [kM]; decide), fun _ => ⟨6 * k + p, by omega, nI_k6 k p, ?_⟩⟩⟩
        refine ok_M_goodness (u := u ||| 2 ^ k) (l := s_Q (s_rl V) (p + 1)) (by omega) hv ha h6 w.1 (fun I3 f3 => ⟨_, _, _, rfl, rfl, ?_⟩)
        have k1 := key_1 (U := 100000) hc h6 (Nat.le_refl _) (by omega) va hmin hu hl hp ak
        have k1 : 10000 - s_hN V k p + s_G V (u ||| 2 ^ k) (s_Q (s_rl V) (p + 1)) 64 + t_s (t_g (s_hN V)) a p = t_s (t_g (s_hN V)) a (s_rl V) := k1
        have gk : t_g (s_hN V) p (a p) = 10000 - s_hN V k p := by rw [ak]; rfl
        dsimp only
        rw [e5, nI_add, nI_eq (by omega) (by omega)]
        refine ⟨fun _ => ?_, fun z => absurd (by omega) z⟩
        have w3 := mk_ff f3 w
        rintro _ rfl _ rfl _ rfl
        rw [nI_sb (by omega)]
        have nx : ∀ (I4 : am_V), w_mk V a I I4 (p + 1) → am_Run am_X0 (am_meth d) 230 R 35 [some (.ref 113), some (.int (nI (u ||| 2 ^ k))), some (.int (nI (s_Q (s_rl V) (p + 1)))), some (.int (nI (t_s (t_g (s_hN V)) a (s_rl V) - t_s (t_g (s_hN V)) a p - (10000 - s_hN V k p)))), some (.int (nI (p + 1))), none, none] [] (am_mk I4 L1, 0, 0) := fun I4 w4 => by
          have ih := ih I4 (u ||| 2 ^ k) w4 (fun x => by
            rw [or_bt, Bool.or_eq_true, hu x, decide_eq_true_eq]
            refine ⟨fun z => ?_, fun ⟨i, hi, e⟩ => ?_⟩
            · rcases z with ⟨i, hi, e⟩ | e
              · exact ⟨i, by omega, e⟩
              · exact ⟨p, by omega, by rw [ak, e]⟩
            · by_cases z : i = p
              · rw [z, ak] at e
                injection e with e
                exact Or.inr e
              · exact Or.inl ⟨i, by omega, e⟩)
          rw [sp1, gk, ← Nat.sub_sub] at ih
          exact ih
        refine (fun (I4 : am_V) (w4 : w_mk V a I I4 (p + 1)) (e4 : ¬ I4 155 p < 0) => r_M_makePlaces_65 (I := I4) ⟨fun _ => ⟨by omega, fun z => absurd z e4, fun _ => nx I4 w4⟩, fun _ => nx I4 w4⟩) _ ⟨?_, ?_, ?_, ?_, ?_⟩ ?_
        · refine pv_fr w3.1 (fun j hj => ?_) (fun c c1 _ _ c4 => by rw [am_vat, if_neg c1, am_vat, if_neg c1, am_vat, if_neg c4])
          show upd (upd (I3 113) 50 _) 51 _ j = I3 113 j
          rw [upd_ne (fun z => by rw [z] at hj; exact absurd hj (by decide)), upd_ne (fun z => by rw [z] at hj; exact absurd hj (by decide))]
        · exact lo_up (by decide) (lo_up (by decide) (lo_up (by decide) w3.2.1))
        · intro i hi
          show upd (I3 155) p (nI k) i = _
          by_cases e : i = p
          · rw [e, upd_at, ak]; rfl
          · rw [upd_ne e]; exact w3.2.2.1 i (by omega)
        · show I3 113 50 + (10000 - nI (10000 - s_hN V k p)) = nI (t_s (t_c (s_hN V)) a p + t_c (s_hN V) p (a p))
          rw [w3.2.2.2.1, show (10000 : Int32) = nI 10000 from rfl, nI_sb (by omega), nI_add, ak, show 10000 - (10000 - s_hN V k p) = s_hN V k p from by omega]
          rfl
        · show I3 113 51 + 1 = nI (t_s t_1 a p + t_1 p (a p))
          rw [w3.2.2.2.2, nI_1, ak]; rfl
        · show ¬ upd (I3 155) p (nI k) p < 0
          rw [upd_at]; exact nI_pos (by omega)
  · refine ⟨pv_fr pv2 (fun j hj => ?_) (fun c c1 _ _ _ => by rw [am_vat, if_neg c1, am_vat, if_neg c1]), ?_, fun i hi => absurd hi (Nat.not_lt_zero i), rfl, rfl⟩
    · show upd (upd (I2 113) 50 0) 51 0 j = I2 113 j
      rw [upd_ne (fun z => by rw [z] at hj; exact absurd hj (by decide)), upd_ne (fun z => by rw [z] at hj; exact absurd hj (by decide))]
    · exact lo_up (by decide) (lo_up (by decide) (fun c hc => (f2 c (by omega) (by omega)).trans (lo1 c hc)))
  · intro x
    rw [Nat.zero_testBit]
    exact ⟨fun z => Bool.noConfusion z, fun ⟨i, hi, _⟩ => absurd hi (Nat.not_lt_zero i)⟩
end GO
