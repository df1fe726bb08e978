/-! too long in a land: the reference -/
section VI
variable {d : Nat} {I V : am_V} {L : Nat → Nat → Int64} {R : am_R}
/-- of the first n stays, the asked one and the keeper's, in that land, one has the day -/
def s_sq (V : am_V) (k s j x : Nat) : Bool := (decide (j = s) || decide (V 128 j = 1 ∧ V 129 j = nI k)) && decide (V 114 (s_tn V j) = V 114 (s_tn V s)) && decide (am_n V 126 j ≤ x ∧ x ≤ am_n V 127 j)
def s_sp (V : am_V) (k s n x : Nat) : Bool := s_any (fun j => s_sq V k s j x) n
def s_win (f : Nat → Bool) (j : Nat) : Nat := s_cnt f j - s_cnt f (j - 180)
def s_visa (V : am_V) (k s : Nat) : Bool := s_any (fun x => decide (am_n V 116 (am_n V 114 (s_tn V s)) < s_win (s_sp V k s (am_n V 113 14)) (x + 1))) 1501
theorem cnt_t {f : Nat → Bool} {j : Nat} (h : f j = true) : s_cnt f (j + 1) = s_cnt f j + 1 := by rw [s_cnt, if_pos h]
theorem cnt_f {f : Nat → Bool} {j : Nat} (h : ¬ f j = true) : s_cnt f (j + 1) = s_cnt f j := by rw [s_cnt, if_neg h]
theorem cnt_up {f : Nat → Bool} {a b : Nat} (h : a ≤ b) : s_cnt f a ≤ s_cnt f b := by
  induction b with
  | zero => have : a = 0 := by omega
            subst this; exact Nat.le_refl _
  | succ b ih =>
    by_cases e : a = b + 1
    · subst e; exact Nat.le_refl _
    · have := ih (by omega)
      rw [s_cnt]; split <;> omega
/-- only the reference's cells 138 .. 145 have changed -/
def w_mf (I' I : am_V) : Prop := ∀ c, c < 138 ∨ 145 < c → I' c = I c
theorem mf_r {I : am_V} : w_mf I I := fun _ _ => rfl
theorem mf_up {I' I : am_V} {c : Nat} {f : Nat → Int32} (h1 : 138 ≤ c) (h2 : c ≤ 145) (h : w_mf I' I) : w_mf (va_up I' c f) I := fun x hx => by rw [am_vat, if_neg (by omega)]; exact h x hx
theorem mf_lo {I' I : am_V} (h : w_mf I' I) : am_lo I' I := fun c hc => h c (by omega)
theorem mf_t {I2 I1 I : am_V} (h2 : w_mf I2 I1) (h1 : w_mf I1 I) : w_mf I2 I := fun c hc => (h2 c hc).trans (h1 c hc)
theorem ok_M_isTooLong {k s : Nat} (hd : 3 ≤ d) (hm : RM I V) (hv : Inv V) (hs : s < am_n V 113 14) (h1 : ∀ I' L', RM I' V → w_mf I' I → s_visa V k s = true → R (some (.int 1)) (am_mk I' L', 0, 0)) (h0 : ∀ I' L', RM I' V → w_mf I' I → s_visa V k s = false → R (some (.int 0)) (am_mk I' L', 0, 0)) : am_meth d 171 [.ref 113, .int (nI k), .int (nI s)] (am_mk I L, 0, 0) R := by
  obtain ⟨d, rfl⟩ : ∃ e, d = e + 1 := ⟨d - 1, by omega⟩
  have hn := hv.1.2.2.2.1
  have hn2 := hn.2
  have h60 : s < 60 := by omega
  have q125 : ∀ I' : am_V, RM I' V → ∀ j, j < 60 → am_ix I' 125 j 20 ∧ I' 122 (am_n I' 125 j) = nI (s_tn V j) := fun I' h j hj => by
    have a1 : I' 125 = V 125 := h.1 125 rfl
    have a2 : I' 122 = V 122 := h.1 122 rfl
    refine ⟨?_, ?_⟩
    · unfold am_ix am_n; rw [a1]; exact (hv.2.2.2.1.1 j hj).1
    · have := (tn_ix hv hj).1
      rw [a2, ← this]; unfold am_n; rw [a1]
  have t10 : ∀ j, j < 60 → s_tn V j < 10 := fun j hj => (tn_ix hv hj).2
  have ln := hv.2.1.1 (s_tn V s) (t10 s h60)
  have li := hv.2.1.2.2 (am_n V 114 (s_tn V s)) ln.2
  have li2 := li.2
  refine ar_in rfl rfl rfl (r_M_isTooLong_0 (by omega) ⟨h60, (q125 I hm s h60).1, s_tn V s, t10 s h60, (q125 I hm s h60).2, ?_⟩)
  rw [hm.1 114 rfl]
  -- the sums
  have sums : ∀ I' : am_V, RM I' V → w_mf I' I → (∀ x, x < 1501 → I' 145 x = if s_sp V k s (am_n V 113 14) x = true then 1 else 0) → am_Run am_X0 (am_meth d) 171 R 129 [some (.ref 113), none, none, some (.int (V 114 (s_tn V s))), some (.int 0), some (.int 0)] [] (am_mk I' L, 0, 0) := by
    intro I' hm' hl hx
    unfold s_visa at h1 h0
    generalize s_sp V k s (am_n V 113 14) = f at *
    refine am_up (P := fun j => s_any (fun x => decide (am_n V 116 (am_n V 114 (s_tn V s)) < s_win f (x + 1))) j = false → am_Run am_X0 (am_meth d) 171 R 129 [some (.ref 113), none, none, some (.int (V 114 (s_tn V s))), some (.int (nI (s_win f j))), some (.int (nI j))] [] (am_mk I' L, 0, 0)) (n := 1501) (fun hf => ?_) (fun j hj ih hf => ?_) rfl
    · exact r_M_isTooLong_129 ⟨fun c => absurd c (by decide), fun _ => h0 _ _ hm' hl hf⟩
    · have b1 := cnt_le (S := f) j
      have b2 := cnt_le (S := f) (j + 1)
      have b3 := cnt_up (f := f) (a := j - 180) (b := j) (by omega)
      have b4 := cnt_up (f := f) (a := j + 1 - 180) (b := j + 1) (by omega)
      have fin : ∀ m : Int32, m = nI (s_win f (j + 1)) → ∃ l5 : Nat, l5 < 5 ∧ V 114 (s_tn V s) = nI l5 ∧ (m ≤ I' 116 l5 → am_Run am_X0 (am_meth d) 171 R 129 [some (.ref 113), none, none, some (.int (V 114 (s_tn V s))), some (.int m), some (.int (nI (j + 1)))] [] (am_mk I' L, 0, 0)) ∧ (¬ m ≤ I' 116 l5 → R (some (.int 1)) (am_mk I' L, 0, 0)) := by
        rintro _ rfl
        have bw : s_win f (j + 1) ≤ 1501 := by unfold s_win; omega
        refine ⟨am_n V 114 (s_tn V s), ln.2, ln.1, ?_⟩
        rw [hm'.1 116 rfl, li.1, nI_leI (by omega) (by omega)]
        refine ⟨fun c => ih ?_, fun c => h1 _ _ hm' hl (s_any_of hj (decide_eq_true_iff.mpr (by omega)))⟩
        rw [s_any, hf, Bool.false_or, decide_eq_false (by omega)]
      have f0 := hx j hj
      refine r_M_isTooLong_129 ⟨fun _ => ⟨hj, fun c => ⟨fun c2 => fin _ ?_, fun c2 => ⟨j - 180, by omega, ?_, fun c3 => fin _ ?_, fun c3 => fin _ ?_⟩⟩, fun c => ⟨fun c2 => fin _ ?_, fun c2 => ⟨j - 180, by omega, ?_, fun c3 => fin _ ?_, fun c3 => fin _ ?_⟩⟩⟩, fun c => absurd (nI_le (b := 1500) (by omega) (by decide)) c⟩
      · have z : ¬ f j = true := fun q => by rw [f0, if_pos q] at c; exact absurd c (by decide)
        have lt := (nI_ltI (b := 180) (by omega) (by decide)).mp c2
        unfold s_win
        rw [cnt_f z, show j + 1 - 180 = j - 180 from by omega]
      · have ge : ¬ j < 180 := fun q => c2 (nI_lt (b := 180) q (by decide))
        exact pk_sub (b := 180) (by omega)
      · have ge : ¬ j < 180 := fun q => c2 (nI_lt (b := 180) q (by decide))
        have z : ¬ f j = true := fun q => by rw [f0, if_pos q] at c; exact absurd c (by decide)
        have z2 : ¬ f (j - 180) = true := fun q => by rw [hx _ (by omega), if_pos q] at c3; exact absurd c3 (by decide)
        unfold s_win
        rw [cnt_f z, show j + 1 - 180 = j - 180 + 1 from by omega, cnt_f z2]
      · have ge : ¬ j < 180 := fun q => c2 (nI_lt (b := 180) q (by decide))
        have z : ¬ f j = true := fun q => by rw [f0, if_pos q] at c; exact absurd c (by decide)
        have z2 : f (j - 180) = true := Decidable.byContradiction (fun q => c3 (by rw [hx _ (by omega), if_neg q]))
        have b5 := cnt_up (f := f) (a := j - 180 + 1) (b := j) (by omega)
        rw [cnt_t z2] at b5
        unfold s_win
        rw [cnt_f z, show j + 1 - 180 = j - 180 + 1 from by omega, cnt_t z2, show s_cnt f j - s_cnt f (j - 180) = s_cnt f j - (s_cnt f (j - 180) + 1) + 1 from by omega]
        exact pk_m1 _
      · have z : f j = true := Decidable.byContradiction (fun q => c (by rw [f0, if_neg q]))
        have lt := (nI_ltI (b := 180) (by omega) (by decide)).mp c2
        unfold s_win
        rw [cnt_t z, show j + 1 - 180 = j - 180 from by omega, nI_1, show s_cnt f j - s_cnt f (j - 180) + 1 = s_cnt f j + 1 - s_cnt f (j - 180) from by omega]
      · have ge : ¬ j < 180 := fun q => c2 (nI_lt (b := 180) q (by decide))
        exact pk_sub (b := 180) (by omega)
      · have ge : ¬ j < 180 := fun q => c2 (nI_lt (b := 180) q (by decide))
        have z : f j = true := Decidable.byContradiction (fun q => c (by rw [f0, if_neg q]))
        have z2 : ¬ f (j - 180) = true := fun q => by rw [hx _ (by omega), if_pos q] at c3; exact absurd c3 (by decide)
        unfold s_win
        rw [cnt_t z, show j + 1 - 180 = j - 180 + 1 from by omega, cnt_f z2, nI_1, show s_cnt f j - s_cnt f (j - 180) + 1 = s_cnt f j + 1 - s_cnt f (j - 180) from by omega]
      · have ge : ¬ j < 180 := fun q => c2 (nI_lt (b := 180) q (by decide))
        have z : f j = true := Decidable.byContradiction (fun q => c (by rw [f0, if_neg q]))
        have z2 : f (j - 180) = true := Decidable.byContradiction (fun q => c3 (by rw [hx _ (by omega), if_neg q]))
        have b5 := cnt_up (f := f) (a := j - 180 + 1) (b := j) (by omega)
        rw [cnt_t z2] at b5
        unfold s_win
        rw [cnt_t z, show j + 1 - 180 = j - 180 + 1 from by omega, cnt_t z2, nI_1, show s_cnt f j - s_cnt f (j - 180) + 1 = s_cnt f j + 1 - (s_cnt f (j - 180) + 1) + 1 from by omega]
        exact pk_m1 _
  -- the days of each stay
  have days : ∀ I' : am_V, RM I' V → w_mf I' I → (∀ x, x < 1501 → I' 145 x = 0) → am_Run am_X0 (am_meth d) 171 R 39 [some (.ref 113), some (.int (nI k)), some (.int (nI s)), some (.int (V 114 (s_tn V s))), some (.int 0), none] [] (am_mk I' L, 0, 0) := by
    intro I' hm' hl hx
    refine am_up (P := fun j => ∀ I' : am_V, RM I' V → w_mf I' I → (∀ x, x < 1501 → I' 145 x = if s_sp V k s j x = true then 1 else 0) → am_Run am_X0 (am_meth d) 171 R 39 [some (.ref 113), some (.int (nI k)), some (.int (nI s)), some (.int (V 114 (s_tn V s))), some (.int (nI j)), none] [] (am_mk I' L, 0, 0)) (n := am_n V 113 14) (fun I' hm' hl hx => ?_) (fun j hj ih I' hm' hl hx => ?_) I' hm' hl (fun x hx2 => by rw [hx x hx2]; rfl)
    · have en : I' 113 14 = nI (am_n V 113 14) := by rw [hm'.2 14 rfl]; exact hn.1
      exact r_M_isTooLong_39 (by omega) ⟨fun c => absurd (en ▸ c) (nI_nlt (Nat.le_refl _) (by omega)), fun _ => sums I' hm' hl hx⟩
    · have en : I' 113 14 = nI (am_n V 113 14) := by rw [hm'.2 14 rfl]; exact hn.1
      have j60 : j < 60 := by omega
      have vf := (hv.2.2.2.1.1 j j60).2.1
      have vt := (hv.2.2.2.1.1 j j60).2.2.1
      have vf2 := vf.2
      have vt2 := vt.2
      have vo := (hv.2.2.2.1.2 j hj).1.1
      have no : (∀ x, ¬ s_sq V k s j x = true) → am_Run am_X0 (am_meth d) 171 R 39 [some (.ref 113), some (.int (nI k)), some (.int (nI s)), some (.int (V 114 (s_tn V s))), some (.int (nI (j + 1))), none] [] (am_mk I' L, 0, 0) := fun q => ih I' hm' hl (fun x hx2 => by
        rw [hx x hx2]
        unfold s_sp
        rw [s_any, Bool.eq_false_iff.mpr (q x), Bool.or_false])
      have yes : (∀ x, s_sq V k s j x = decide (am_n V 126 j ≤ x ∧ x ≤ am_n V 127 j)) → am_Run am_X0 (am_meth d) 171 R 91 [some (.ref 113), some (.int (nI k)), some (.int (nI s)), some (.int (V 114 (s_tn V s))), some (.int (nI j)), some (.int (I' 126 j))] [] (am_mk I' L, 0, 0) := by
        intro q
        have key : ∀ y, y ≤ am_n V 127 j + 1 - am_n V 126 j → ∀ I2 : am_V, RM I2 V → w_mf I2 I → (∀ x, x < 1501 → I2 145 x = if (s_sp V k s j x || decide (am_n V 126 j ≤ x ∧ x < am_n V 127 j + 1 - y)) = true then 1 else 0) → am_Run am_X0 (am_meth d) 171 R 91 [some (.ref 113), some (.int (nI k)), some (.int (nI s)), some (.int (V 114 (s_tn V s))), some (.int (nI j)), some (.int (nI (am_n V 127 j + 1 - y)))] [] (am_mk I2 L, 0, 0) := by
          intro y
          induction y with
          | zero =>
            intro hy I2 hm2 hl2 hx2
            refine r_M_isTooLong_91 ⟨j60, fun c => ?_, fun _ => ih I2 hm2 hl2 (fun x hx3 => ?_)⟩
            · rw [hm2.1 127 rfl, vt.1, nI_leI (by omega) (by omega)] at c; omega
            · rw [hx2 x hx3]
              unfold s_sp
              rw [s_any, q x]
              have e : decide (am_n V 126 j ≤ x ∧ x < am_n V 127 j + 1 - 0) = decide (am_n V 126 j ≤ x ∧ x ≤ am_n V 127 j) := by
                congr 1; apply propext; omega
              rw [e]
          | succ y ihy =>
            intro hy I2 hm2 hl2 hx2
            refine r_M_isTooLong_91 ⟨j60, fun c => ⟨by omega, ?_⟩, fun c => ?_⟩
            · rintro _ rfl
              rw [show am_n V 127 j + 1 - (y + 1) + 1 = am_n V 127 j + 1 - y from by omega]
              refine ihy (by omega) _ (RM_s (by decide) (by decide) hm2) (mf_up (by decide) (by decide) hl2) (fun x hx3 => ?_)
              show upd (I2 145) (am_n V 127 j + 1 - (y + 1)) (vp_nar .boolean 1) x = _
              rw [am_uat]
              by_cases e : x = am_n V 127 j + 1 - (y + 1)
              · rw [if_pos e, decide_eq_true (by omega : am_n V 126 j ≤ x ∧ x < am_n V 127 j + 1 - y), Bool.or_true, if_pos rfl]
                rfl
              · rw [if_neg e, hx2 x hx3]
                have e2 : decide (am_n V 126 j ≤ x ∧ x < am_n V 127 j + 1 - (y + 1)) = decide (am_n V 126 j ≤ x ∧ x < am_n V 127 j + 1 - y) := by
                  congr 1; apply propext; omega
                rw [e2]
            · rw [hm2.1 127 rfl, vt.1, nI_leI (by omega) (by omega)] at c; omega
        have z := key (am_n V 127 j + 1 - am_n V 126 j) (Nat.le_refl _) I' hm' hl (fun x hx2 => by
          rw [hx x hx2, decide_eq_false (by omega), Bool.or_false])
        rw [show am_n V 127 j + 1 - (am_n V 127 j + 1 - am_n V 126 j) = am_n V 126 j from by omega] at z
        rw [hm'.1 126 rfl, vf.1]
        exact z
      have g := q125 I' hm' j j60
      have la : I' 114 (s_tn V j) = V 114 (s_tn V j) := by rw [hm'.1 114 rfl]
      refine r_M_isTooLong_39 (by omega) ⟨fun _ => ⟨fun c => ⟨j60, g.1, s_tn V j, t10 j j60, g.2, ?_⟩, fun c => ⟨j60, ?_⟩⟩, fun c => absurd (by rw [en]; exact nI_lt hj (by omega)) c⟩
      · rw [nI_eq (by omega) (by omega)] at c
        rw [la]
        refine ⟨fun c2 => ⟨j60, yes (fun x => ?_)⟩, fun c2 => no (fun x q => ?_)⟩
        · unfold s_sq; rw [decide_eq_true c, decide_eq_true c2, Bool.true_or, Bool.true_and, Bool.true_and]
        · unfold s_sq at q; rw [decide_eq_false c2, Bool.and_false, Bool.false_and] at q; exact Bool.noConfusion q
      · have cj : ¬ j = s := fun e => c (by rw [e])
        rw [hm'.1 128 rfl, hm'.1 129 rfl]
        refine ⟨fun c1 => ⟨j60, g.1, s_tn V j, t10 j j60, g.2, ?_⟩, fun c1 => no (fun x q => ?_)⟩
        · rw [la]
          refine ⟨fun c2 => ⟨j60, yes (fun x => ?_)⟩, fun c2 => no (fun x q => ?_)⟩
          · unfold s_sq; rw [decide_eq_true c1, decide_eq_true c2, Bool.or_true, Bool.true_and, Bool.true_and]
          · unfold s_sq at q; rw [decide_eq_false c2, Bool.and_false, Bool.false_and] at q; exact Bool.noConfusion q
        · unfold s_sq at q; rw [decide_eq_false c1, decide_eq_false cj, Bool.or_false, Bool.false_and, Bool.false_and] at q; exact Bool.noConfusion q
  refine am_up (P := fun j => ∀ I' : am_V, RM I' V → w_mf I' I → (∀ x, x < j → I' 145 x = 0) → am_Run am_X0 (am_meth d) 171 R 14 [some (.ref 113), some (.int (nI k)), some (.int (nI s)), some (.int (V 114 (s_tn V s))), some (.int (nI j)), none] [] (am_mk I' L, 0, 0)) (n := 1501) (fun I' hm' hl hx => ?_) (fun j hj ih I' hm' hl hx => ?_) I hm mf_r (fun x hx => absurd hx (Nat.not_lt_zero x))
  · exact r_M_isTooLong_14 ⟨fun c => absurd c (by decide), fun _ => days I' hm' hl hx⟩
  · refine r_M_isTooLong_14 ⟨fun _ => ⟨hj, ?_⟩, fun c => absurd (nI_le (b := 1500) (by omega) (by decide)) c⟩
    rintro _ rfl
    refine ih _ (RM_s (by decide) (by decide) hm') (mf_up (by decide) (by decide) hl) (fun x hx2 => ?_)
    show upd (I' 145) j (vp_nar .boolean 0) x = 0
    rw [am_uat]
    by_cases e : x = j
    · rw [if_pos e]; rfl
    · rw [if_neg e]; exact hx x (by omega)
end VI
