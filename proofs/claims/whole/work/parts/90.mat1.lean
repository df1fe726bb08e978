/-! keepers for the stays of a row: who may, what each would rather have -/
def s_M (V : am_V) (k p : Nat) : Bool := decide (k < am_n V 113 4) && decide (s_why V k (s_rw V p) = 0)
def s_wi (V : am_V) (k p : Nat) : Int32 := V 121 (5 * k + am_n V 114 (s_tn V (s_rw V p)))
def s_kp (V : am_V) (k p q : Nat) : Bool := decide (s_wi V k q < s_wi V k p ∨ s_wi V k p = s_wi V k q ∧ p < q)
def w_sv (V I : am_V) : Prop := RC I V ∧ I 74 8 = V 113 0 ∧ I 106 9 = nI (s_rl V) ∧ (∀ p, p < s_rl V → I 108 p = nI (s_rw V p)) ∧ ∀ p, p < s_rl V → ∀ k, k < 32 → am_bt (I 109 p) k = s_M V k p
def w_pv (V I : am_V) : Prop := RM I V ∧ (∀ k, k < am_n V 113 4 → ∀ p, p < s_rl V → am_bt (I 153 k) p = s_M V k p) ∧ ∀ k, k < am_n V 113 4 → ∀ p, p < s_rl V → I 154 (6 * k + p) = s_ht V k (s_rw V p)
section MA
variable {d : Nat} {I V : am_V} {L : Nat → Nat → Int64} {R : am_R}
theorem bar_0 (hv : Inv V) (h : s_bar V = 0) : s_alo V = true ∧ s_opn V = true ∧ s_rl V ≤ 6 := by
  have hr := rl_12 hv
  unfold s_bar at h
  by_cases a : s_alo V = true
  · rw [if_pos a] at h
    by_cases b : s_opn V = true
    · rw [if_pos b] at h
      by_cases c : V 113 39 ≤ 6
      · refine ⟨a, b, ?_⟩
        rw [hr.1, show (6 : Int32) = nI 6 from rfl, nI_leI (by omega) (by decide)] at c
        exact c
      · rw [if_neg c] at h; exact absurd h (by decide)
    · rw [if_neg b] at h; exact absurd h (by decide)
  · rw [if_neg a] at h; exact absurd h (by decide)
theorem bar_c (V : am_V) : s_bar V = 0 ∨ s_bar V = -1 ∨ s_bar V = -3 ∨ s_bar V = -6 := by
  unfold s_bar
  split
  · split
    · split
      · exact Or.inl rfl
      · exact Or.inr (Or.inr (Or.inr rfl))
    · exact Or.inr (Or.inr (Or.inl rfl))
  · exact Or.inr (Or.inl rfl)
def s_bj (V : am_V) : Nat := (-(s_bar V)).toNatClampNeg
theorem bar_n (h : ¬ s_bar V = 0) : -(s_bar V) = nI (s_bj V) ∧ s_bj V < 7 ∧ s_bar V < 0 := by
  unfold s_bj
  rcases bar_c V with e | e | e | e
  · exact absurd e h
  · rw [e]; decide
  · rw [e]; decide
  · rw [e]; decide
theorem ok_Ma_survey (hd : 8 ≤ d) (hc : RC I V) (hv : Inv V) (ha : s_alo V = true) (ho : s_opn V = true) (h6 : s_rl V ≤ 6) (h : ∀ I' L', w_sv V I' → am_hi I' I → R none (am_mk I' L', 0, 0)) : am_meth d 60 [.ref 106, .ref 95] (am_mk I L, 0, 0) R := by
  obtain ⟨d, rfl⟩ : ∃ e, d = e + 1 := ⟨d - 1, by omega⟩
  have hr := rl_12 hv
  have hk := hv.1.2.1
  have hk2 := hk.2
  have ht := hv.1.1
  have ht2 := ht.2
  have n3 : I 66 0 = V 113 0 := hc.1.2.2.1
  refine ar_in rfl rfl rfl (r_Match_survey_0 (by omega) ?_)
  rw [n3]
  refine ok_Re_know8 (by omega) hc hv ht.1 (by omega) (fun I1 L1 hc1 h61 kd k8 => ⟨_, _, rfl, rfl, ?_⟩)
  rw [← ht.1] at k8
  rintro _ rfl
  have e95 : I1 95 0 = nI (s_rl V) := hc1.1.2.2.2.2.2.2.1.trans hr.1
  have e9 : (if 6 < I1 95 0 then 6 else I1 95 0) = nI (s_rl V) := by
    rw [e95, if_neg (show ¬ (6 : Int32) < nI (s_rl V) from nI_nlt (a := 6) h6 (by decide))]
  rw [e9]
  -- who may
  have who : ∀ (I' : am_V) (L' : Nat → Nat → Int64), RC I' V → am_hi I' I → I' 74 8 = V 113 0 → I' 106 9 = nI (s_rl V) → (∀ p, p < s_rl V → I' 108 p = nI (s_rw V p)) → (∀ p, p < s_rl V → I' 109 p = 0) → am_Run am_X0 (am_meth d) 60 R 63 [some (.ref 106), none, some (.int 0), none] [] (am_mk I' L', 0, 0) := by
    intro I' L' f1 f2 f3 f4 f5 f6
    refine am_up (P := fun k => ∀ (I' : am_V) (L' : Nat → Nat → Int64), RC I' V → am_hi I' I → I' 74 8 = V 113 0 → I' 106 9 = nI (s_rl V) → (∀ p, p < s_rl V → I' 108 p = nI (s_rw V p)) → (∀ p, p < s_rl V → ∀ x, x < 32 → am_bt (I' 109 p) x = (decide (x < k) && decide (s_why V x (s_rw V p) = 0))) → am_Run am_X0 (am_meth d) 60 R 63 [some (.ref 106), none, some (.int (nI k)), none] [] (am_mk I' L', 0, 0)) (n := am_n V 113 4) (fun I' L' f1 f2 f3 f4 f5 f6 => ?_) (fun k hk4 ih I' L' f1 f2 f3 f4 f5 f6 => ?_) I' L' f1 f2 f3 f4 f5 (fun p hp x hx => by rw [f6 p hp, bt_0]; rfl)
    · have en : I' 16 0 = nI (am_n V 113 4) := by rw [f1.1.1]; exact hk.1
      exact r_Match_survey_63 ⟨fun c => absurd (en ▸ c) (nI_nlt (Nat.le_refl _) (by omega)), fun _ => h I' L' ⟨f1, f3, f4, f5, f6⟩ f2⟩
    · have en : I' 16 0 = nI (am_n V 113 4) := by rw [f1.1.1]; exact hk.1
      have k20 : k < 20 := by omega
      refine r_Match_survey_63 ⟨fun _ => ?_, fun c => absurd (by rw [en]; exact nI_lt hk4 (by omega)) c⟩
      refine ok_Ru_gather (by omega) f1 hv (fun I2 L2 mm n g1 g2 g3 g4 _ => ⟨_, _, rfl, rfl, ?_⟩)
      have c2 : ∀ c, c ≠ 99 → c ≠ 101 → I2 c = I' c := g2
      refine am_up (P := fun p => ∀ (I' : am_V) (L' : Nat → Nat → Int64), RC I' V → am_hi I' I → I' 74 8 = V 113 0 → I' 106 9 = nI (s_rl V) → (∀ p, p < s_rl V → I' 108 p = nI (s_rw V p)) → w_mn I' mm n → (∀ y, y < s_rl V → ∀ x, x < 32 → am_bt (I' 109 y) x = (decide (x < k ∨ (x = k ∧ y < p)) && decide (s_why V x (s_rw V y) = 0))) → am_Run am_X0 (am_meth d) 60 R 84 [some (.ref 106), none, some (.int (nI k)), some (.int (nI p))] [] (am_mk I' L', 0, 0)) (n := s_rl V) (fun I' L' f1 f2 f3 f4 f5 fm f6 => ?_) (fun p hp ih2 I' L' f1 f2 f3 f4 f5 fm f6 => ?_) I2 L2 g1 (fun c hc => (m2_hi g2 c hc).trans (f2 c hc)) (by rw [c2 74 (by decide) (by decide)]; exact f3) (by rw [c2 106 (by decide) (by decide)]; exact f4) (fun p hp => by rw [c2 108 (by decide) (by decide)]; exact f5 p hp) g3 (fun y hy x hx => by
        rw [c2 109 (by decide) (by decide), f6 y hy x hx]
        congr 2
        apply propext
        omega)
      · refine r_Match_survey_84 ⟨fun c => absurd (f4 ▸ c) (nI_nlt (Nat.le_refl _) (by omega)), fun _ => ih I' L' f1 f2 f3 f4 f5 (fun y hy x hx => ?_)⟩
        rw [f6 y hy x hx]
        congr 2
        apply propext
        omega
      · have rs := row_s hv ha hp
        refine r_Match_survey_84 ⟨fun _ => ⟨by omega, ?_⟩, fun c => absurd (by rw [f4]; exact nI_lt hp (by omega)) c⟩
        rw [f5 p hp]
        refine ok_Ru_whyBeside (by omega) f1 hv fm g4 k20 rs.2.1 (row_o hv ha ho hp).1 (fun I3 L3 w1 w2 w3 => ⟨_, _, _, rfl, rfl, fun c => ?_, fun c => ?_⟩)
        · have c3 : ∀ c, c ≠ 74 → c ≠ 75 → c ≠ 76 → c ≠ 77 → c ≠ 84 → c ≠ 100 → I3 c = I' c := w2
          rintro _ rfl
          refine ih2 _ L3 (RC_98 (fun c hc => by rw [am_vat, if_neg (by omega)]) w1) (fun c hc => by rw [am_vat, if_neg (by omega)]; exact (k7_hi w2 c hc).trans (f2 c hc)) (w3 f3) ?_ (fun p hp => ?_) ⟨?_, fm.2.1, fun i hi => ?_⟩ (fun y hy x hx => ?_)
          · show I3 106 9 = _
            rw [c3 106 (by decide) (by decide) (by decide) (by decide) (by decide) (by decide)]; exact f4
          · show I3 108 p = _
            rw [c3 108 (by decide) (by decide) (by decide) (by decide) (by decide) (by decide)]; exact f5 p hp
          · show I3 99 8 = _
            rw [c3 99 (by decide) (by decide) (by decide) (by decide) (by decide) (by decide)]; exact fm.1
          · show I3 101 i = _ ∧ _
            rw [c3 101 (by decide) (by decide) (by decide) (by decide) (by decide) (by decide)]; exact fm.2.2 i hi
          · show am_bt (upd (I3 109) p (I3 109 p ||| (1 <<< (nI k &&& 31))) y) x = _
            have e109 : I3 109 = I' 109 := c3 109 (by decide) (by decide) (by decide) (by decide) (by decide) (by decide)
            rw [e109]
            by_cases e : y = p
            · subst e
              rw [upd_at, bt_or (by omega) hx, f6 y hy x hx]
              by_cases ex : x = k
              · subst ex
                rw [decide_eq_true rfl, Bool.or_true, decide_eq_true (show x < x ∨ (x = x ∧ y < y + 1) from Or.inr ⟨rfl, by omega⟩), decide_eq_true c]; rfl
              · rw [decide_eq_false ex, Bool.or_false]
                congr 2
                apply propext
                omega
            · rw [upd_ne e, f6 y hy x hx]
              congr 2
              apply propext
              omega
        · have c3 : ∀ c, c ≠ 74 → c ≠ 75 → c ≠ 76 → c ≠ 77 → c ≠ 84 → c ≠ 100 → I3 c = I' c := w2
          refine ih2 I3 L3 w1 (fun c hc => (k7_hi w2 c hc).trans (f2 c hc)) (w3 f3) ?_ (fun p hp => ?_) ⟨?_, fm.2.1, fun i hi => ?_⟩ (fun y hy x hx => ?_)
          · rw [c3 106 (by decide) (by decide) (by decide) (by decide) (by decide) (by decide)]; exact f4
          · rw [c3 108 (by decide) (by decide) (by decide) (by decide) (by decide) (by decide)]; exact f5 p hp
          · rw [c3 99 (by decide) (by decide) (by decide) (by decide) (by decide) (by decide)]; exact fm.1
          · rw [c3 101 (by decide) (by decide) (by decide) (by decide) (by decide) (by decide)]; exact fm.2.2 i hi
          · rw [c3 109 (by decide) (by decide) (by decide) (by decide) (by decide) (by decide), f6 y hy x hx]
            by_cases e : x = k ∧ y = p
            · obtain ⟨ex, ey⟩ := e
              subst ex; subst ey
              rw [decide_eq_false c, Bool.and_false, Bool.and_false]
            · congr 2
              apply propext
              omega
  refine am_up (P := fun p => ∀ (I' : am_V), RC I' V → am_hi I' I → I' 74 8 = V 113 0 → I' 106 9 = nI (s_rl V) → (∀ y, y < p → I' 108 y = nI (s_rw V y) ∧ I' 109 y = 0) → am_Run am_X0 (am_meth d) 60 R 29 [some (.ref 106), some (.ref 95), some (.int (nI p)), none] [] (am_mk I' L1, 0, 0)) (n := s_rl V) (fun I' f1 f2 f3 f4 f5 => ?_) (fun p hp ih I' f1 f2 f3 f4 f5 => ?_) _ (RC_98 (fun c hc => by rw [am_vat, if_neg (by omega)]) hc1) (fun c hc => by rw [am_vat, if_neg (by omega)]; exact k6_hi h61 c hc) k8 rfl (fun y hy => absurd hy (Nat.not_lt_zero y))
  · exact r_Match_survey_29 (by omega) ⟨fun c => absurd (f4 ▸ c) (nI_nlt (Nat.le_refl _) (by omega)), fun _ => who I' L1 f1 f2 f3 f4 (fun p hp => (f5 p hp).1) (fun p hp => (f5 p hp).2)⟩
  · have rs := row_s hv ha hp
    have e96 : I' 96 = V 146 := f1.2.1.2.2.2.2.2.2.2.2.2.2.2.2.2.2.2.1
    have e95' : I' 95 0 = nI (s_rl V) := f1.1.2.2.2.2.2.2.1.trans hr.1
    refine r_Match_survey_29 (by omega) ⟨fun _ => ⟨by omega, by rw [e95']; exact nI_lt hp (by omega), by omega, ?_⟩, fun c => absurd (by rw [f4]; exact nI_lt hp (by omega)) c⟩
    rintro _ rfl _ rfl
    refine ih _ (RC_98 (fun c hc => by rw [am_vat, if_neg (by omega), am_vat, if_neg (by omega)]) f1) (fun c hc => by rw [am_vat, if_neg (by omega), am_vat, if_neg (by omega)]; exact f2 c hc) f3 f4 (fun y hy => ?_)
    show upd (I' 108) p (I' 96 p) y = _ ∧ upd (I' 109) p 0 y = _
    by_cases e : y = p
    · subst e; rw [upd_at, upd_at, e96]; exact ⟨rs.1, rfl⟩
    · rw [upd_ne e, upd_ne e]; exact f5 y (by omega)
theorem land_ix (hv : Inv V) {s : Nat} (hs : s < 60) : V 114 (s_tn V s) = nI (am_n V 114 (s_tn V s)) ∧ am_n V 114 (s_tn V s) < 5 := hv.2.1.1 (s_tn V s) (tn_ix hv hs).2
theorem ok_Ma_kp {k p q : Nat} (hd : 2 ≤ d) (hv : Inv V) (ha : s_alo V = true) (h6 : s_rl V ≤ 6) (hs : w_sv V I) (hk : k < 20) (hp : p < s_rl V) (hq : q < s_rl V) (h1 : s_kp V k p q = true → R (some (.int 1)) (am_mk I L, 0, 0)) (h0 : s_kp V k p q = false → R (some (.int 0)) (am_mk I L, 0, 0)) : am_meth d 65 [.ref 106, .int (nI k), .int (nI p), .int (nI q)] (am_mk I L, 0, 0) R := by
  obtain ⟨d, rfl⟩ : ∃ e, d = e + 1 := ⟨d - 1, by omega⟩
  obtain ⟨hc, k8, s9, s8, s7⟩ := hs
  obtain ⟨⟨n1, n2, n3, n4, n5, n6, n7, n8⟩, ⟨e1, e2, e3, e4, e5, e6, e7, e8, e9, e10, e11, e12, e13, e14, e15, e16, e17⟩, -⟩ := id hc
  have la : ∀ j, j < 60 → am_ix I 67 j 20 ∧ am_ix I 43 (am_n I 67 j) 10 ∧ I 3 (am_n I 43 (am_n I 67 j)) = nI (am_n V 114 (s_tn V j)) := fun j hj => by
    have v1 := (hv.2.2.2.1.1 j hj).1
    have n67 : am_n I 67 j = am_n V 125 j := by unfold am_n; rw [e10]
    refine ⟨?_, ?_, ?_⟩
    · unfold am_ix am_n; rw [e10]; exact v1
    · rw [n67]; unfold am_ix am_n; rw [e8]; exact (hv.2.2.1 _ v1.2).2.2.2.1
    · rw [n67, e2, ← (land_ix hv hj).1]; unfold s_tn am_n; rw [e8]
  have rp := row_s hv ha hp
  have rq := row_s hv ha hq
  have lp := la _ rp.2.2
  have lq := la _ rq.2.2
  have wi : ∀ j, j < 60 → I (22 + k) (am_n V 114 (s_tn V j)) = V 121 (5 * k + am_n V 114 (s_tn V j)) := fun j hj => by
    rw [← hc.2.2.1.2.1 k _ hk (land_ix hv hj).2, r20_e hk]
  refine ar_in rfl rfl rfl (r_Match_keeperPrefers_0 (by omega) ⟨hk, by omega, s_rw V p, s8 p hp, rp.2.2, lp.1, lp.2.1, _, (land_ix hv rp.2.2).2, lp.2.2, by omega, s_rw V q, s8 q hq, rq.2.2, lq.1, lq.2.1, _, (land_ix hv rq.2.2).2, lq.2.2, ?_⟩)
  rw [wi _ rp.2.2, wi _ rq.2.2, nI_ltI (by omega) (by omega)]
  unfold s_kp s_wi at h1 h0
  rw [decide_eq_true_iff] at h1
  rw [decide_eq_false_iff_not] at h0
  refine ⟨fun c => ⟨fun c2 => h1 (Or.inr ⟨c, c2⟩), fun c2 => h0 (fun z => ?_)⟩, fun c => ⟨fun c2 => h0 (fun z => ?_), fun c2 => h1 (Or.inl (Int32.not_le.mp c2))⟩⟩
  · rcases z with z | z
    · rw [c] at z; exact Int32.lt_irrefl z
    · exact c2 z.2
  · rcases z with z | z
    · exact absurd c2 (Int32.not_le.mpr z)
    · exact c z.1
theorem ok_M_wished {k p : Nat} (hd : 2 ≤ d) (hm : RM I V) (hv : Inv V) (ha : s_alo V = true) (hk : k < 20) (hp : p < s_rl V) (h : R (some (.int (s_wi V k p))) (am_mk I L, 0, 0)) : am_meth d 222 [.ref 113, .int (nI k), .int (nI p)] (am_mk I L, 0, 0) R := by
  obtain ⟨d, rfl⟩ : ∃ e, d = e + 1 := ⟨d - 1, by omega⟩
  have mc := hm.1; have mf := hm.2
  have hr := rl_12 hv
  have rp := row_s hv ha hp
  have v1 := (hv.2.2.2.1.1 _ rp.2.2).1
  have q125 : I 125 = V 125 := mc 125 rfl
  have n67 : am_n I 125 (s_rw V p) = am_n V 125 (s_rw V p) := by unfold am_n; rw [q125]
  have li := land_ix hv rp.2.2
  have li2 := li.2
  refine ar_in rfl rfl rfl (r_M_wished_0 (by omega) ⟨by omega, s_rw V p, by rw [mc 146 rfl]; exact rp.1, rp.2.2, ?_, s_tn V (s_rw V p), (tn_ix hv rp.2.2).2, by rw [n67, mc 122 rfl]; exact (tn_ix hv rp.2.2).1, 5 * k + am_n V 114 (s_tn V (s_rw V p)), by omega, ?_, by rw [mc 121 rfl]; exact h⟩)
  · unfold am_ix am_n; rw [q125]; exact v1
  · rw [mc 114 rfl, li.1, show (5 : Int32) = nI 5 from rfl, show nI k * nI 5 = nI (k * 5) from (Int32.ofNat_mul k 5).symm, nI_add, Nat.mul_comm]
theorem ok_M_rather {k p q : Nat} (hd : 3 ≤ d) (hm : RM I V) (hv : Inv V) (ha : s_alo V = true) (hk : k < 20) (hp : p < s_rl V) (hq : q < s_rl V) (h1 : s_kp V k p q = true → R (some (.int 1)) (am_mk I L, 0, 0)) (h0 : s_kp V k p q = false → R (some (.int 0)) (am_mk I L, 0, 0)) : am_meth d 221 [.ref 113, .int (nI k), .int (nI p), .int (nI q)] (am_mk I L, 0, 0) R := by
  obtain ⟨d, rfl⟩ : ∃ e, d = e + 1 := ⟨d - 1, by omega⟩
  have hr := rl_12 hv
  refine ar_in rfl rfl rfl (r_M_rather_0 ⟨fun c => absurd c (nI_pos (by omega)), fun _ => ?_⟩)
  refine ok_M_wished (by omega) hm hv ha hk hp ⟨_, _, _, rfl, rfl, ok_M_wished (by omega) hm hv ha hk hq ⟨_, _, _, rfl, rfl, ?_⟩⟩
  dsimp only
  rw [nI_ltI (by omega) (by omega)]
  unfold s_kp at h1 h0
  rw [decide_eq_true_iff] at h1
  rw [decide_eq_false_iff_not] at h0
  refine ⟨fun c => ⟨fun c2 => ⟨fun c3 => h1 (Or.inr ⟨c2, c3⟩), fun c3 => h0 (fun z => ?_)⟩, fun c2 => h0 (fun z => ?_)⟩, fun c => h1 (Or.inl (Int32.not_le.mp c))⟩
  · rcases z with z | z
    · exact absurd c (Int32.not_le.mpr z)
    · exact c3 z.2
  · rcases z with z | z
    · exact absurd c (Int32.not_le.mpr z)
    · exact c2 z.1
theorem ok_M_rather0 {k p : Nat} {x : Int32} (hd : 1 ≤ d) (hx : x < 0) (h : R (some (.int 1)) (am_mk I L, 0, 0)) : am_meth d 221 [.ref 113, .int (nI k), .int (nI p), .int x] (am_mk I L, 0, 0) R := by
  obtain ⟨d, rfl⟩ : ∃ e, d = e + 1 := ⟨d - 1, by omega⟩
  exact ar_in rfl rfl rfl (r_M_rather_0 ⟨fun _ => h, fun c => absurd hx c⟩)
theorem ok_M_prefers0 {a : Nat} {x : Int32} (hd : 1 ≤ d) (hx : x < 0) (h : R (some (.int 1)) (am_mk I L, 0, 0)) : am_meth d 223 [.ref 113, .int (nI a), .int x] (am_mk I L, 0, 0) R := by
  obtain ⟨d, rfl⟩ : ∃ e, d = e + 1 := ⟨d - 1, by omega⟩
  exact ar_in rfl rfl rfl (r_M_prefers_0 ⟨fun _ => h, fun c => absurd hx c⟩)
end MA
