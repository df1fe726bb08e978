/-! the reference's meets and isLate -/
theorem la_skip {V : am_V} {k day : Int32} {n : Nat} (h : ¬ ((V 128 n = 1 ∧ V 129 n = k) ∧ V 127 n < day)) : s_last V k day (n + 1) = s_last V k day n := by rw [s_last, if_neg h]
theorem la_0 {V : am_V} {k day : Int32} {n : Nat} (h : (V 128 n = 1 ∧ V 129 n = k) ∧ V 127 n < day) (e : s_last V k day n = none) : s_last V k day (n + 1) = some n := by rw [s_last, if_pos h, e]
theorem la_k {V : am_V} {k day : Int32} {n j : Nat} (h : (V 128 n = 1 ∧ V 129 n = k) ∧ V 127 n < day) (e : s_last V k day n = some j) (c : V 127 n ≤ V 127 j) : s_last V k day (n + 1) = some j := by rw [s_last, if_pos h, e]; exact if_pos c
theorem la_n {V : am_V} {k day : Int32} {n j : Nat} (h : (V 128 n = 1 ∧ V 129 n = k) ∧ V 127 n < day) (e : s_last V k day n = some j) (c : ¬ V 127 n ≤ V 127 j) : s_last V k day (n + 1) = some n := by rw [s_last, if_pos h, e]; exact if_neg c
theorem nx_skip {V : am_V} {k day : Int32} {n : Nat} (h : ¬ ((V 128 n = 1 ∧ V 129 n = k) ∧ ¬ V 126 n ≤ day)) : s_nxt V k day (n + 1) = s_nxt V k day n := by rw [s_nxt, if_neg h]
theorem nx_0 {V : am_V} {k day : Int32} {n : Nat} (h : (V 128 n = 1 ∧ V 129 n = k) ∧ ¬ V 126 n ≤ day) (e : s_nxt V k day n = none) : s_nxt V k day (n + 1) = some n := by rw [s_nxt, if_pos h, e]
theorem nx_n {V : am_V} {k day : Int32} {n j : Nat} (h : (V 128 n = 1 ∧ V 129 n = k) ∧ ¬ V 126 n ≤ day) (e : s_nxt V k day n = some j) (c : V 126 n < V 126 j) : s_nxt V k day (n + 1) = some n := by rw [s_nxt, if_pos h, e]; exact if_pos c
theorem nx_k {V : am_V} {k day : Int32} {n j : Nat} (h : (V 128 n = 1 ∧ V 129 n = k) ∧ ¬ V 126 n ≤ day) (e : s_nxt V k day n = some j) (c : ¬ V 126 n < V 126 j) : s_nxt V k day (n + 1) = some j := by rw [s_nxt, if_pos h, e]; exact if_neg c
theorem on_neg {o : Option Nat} (h : ∀ j, o = some j → j < 60) : am_on (-1) o < 0 ↔ o = none := by
  cases o with
  | none => exact ⟨fun _ => rfl, fun _ => by decide⟩
  | some j => exact ⟨fun q => absurd q (nI_pos (n := j) (by have := h j rfl; omega)), fun q => nomatch q⟩
section ML
variable {d : Nat} {I V : am_V} {L : Nat → Nat → Int64} {R : am_R}
def s_meets (V : am_V) (k s : Nat) : Bool := s_any (fun j => decide (V 128 j = 1 ∧ V 129 j = nI k) && s_ov V j s) (am_n V 113 14)
theorem ok_M_meets {k s : Nat} (hd : 2 ≤ d) (hm : RM I V) (hv : Inv V) (hs : s < am_n V 113 14) (ho : V 128 s = 0) (h1 : s_meets V k s = true → R (some (.int 1)) (am_mk I L, 0, 0)) (h0 : s_meets V k s = false → R (some (.int 0)) (am_mk I L, 0, 0)) : am_meth d 166 [.ref 113, .int (nI k), .int (nI s)] (am_mk I L, 0, 0) R := by
  obtain ⟨d, rfl⟩ : ∃ e, d = e + 1 := ⟨d - 1, by omega⟩
  refine ar_in rfl rfl rfl (r_M_meets_0 ?_)
  have mc := hm.1; have mf := hm.2
  have hn := hv.1.2.2.2.1
  have hn2 := hn.2
  have en : I 113 14 = nI (am_n V 113 14) := by rw [mf 14 rfl]; exact hn.1
  unfold s_meets at h1 h0
  refine am_up (P := fun j => s_any (fun j => decide (V 128 j = 1 ∧ V 129 j = nI k) && s_ov V j s) j = false → am_Run am_X0 (am_meth d) 166 R 2 [some (.ref 113), some (.int (nI k)), some (.int (nI s)), some (.int (nI j))] [] (am_mk I L, 0, 0)) (n := am_n V 113 14) (fun hf => ?_) (fun j hj ih hf => ?_) rfl
  · exact r_M_meets_2 (by omega) ⟨fun c => absurd (en ▸ c) (nI_nlt (Nat.le_refl _) (by omega)), fun _ => h0 hf⟩
  · have ih2 : ¬ (decide (V 128 j = 1 ∧ V 129 j = nI k) && s_ov V j s) = true → _ := fun q => ih (by rw [s_any, hf, Bool.false_or]; exact Bool.eq_false_iff.mpr q)
    rw [Bool.and_eq_true_iff, decide_eq_true_iff, ov_iff] at ih2
    refine r_M_meets_2 (by omega) ⟨fun _ => ?_, fun c => absurd (by rw [en]; exact nI_lt hj (by omega)) c⟩
    rw [mc 128 rfl, mc 129 rfl, mc 126 rfl, mc 127 rfl]
    refine ⟨fun c => ih2 (fun q => ?_), fun c => ⟨by omega, fun c2 => ⟨by omega, by omega, fun c3 => ⟨fun c4 => ih2 (fun q => q.2.2 c4), fun c4 => h1 (s_any_of hj ?_)⟩, fun c3 => ih2 (fun q => c3 q.2.1)⟩, fun c2 => ih2 (fun q => c2 q.1)⟩⟩
    · rw [nI_eq (by omega) (by omega)] at c
      subst c
      rw [ho] at q
      exact absurd q.1.1 (by decide)
    · rw [decide_eq_true c2, ov_iff.mpr ⟨c3, c4⟩]; rfl
theorem ok_M_isLate {k s : Nat} (hd : 3 ≤ d) (hm : RM I V) (hv : Inv V) (hk : k < 20) (hs : s < am_n V 113 14) (ho : V 128 s = 0) (h1 : s_late V k s = true → R (some (.int 1)) (am_mk I L, 0, 0)) (h0 : s_late V k s = false → R (some (.int 0)) (am_mk I L, 0, 0)) : am_meth d 168 [.ref 113, .int (nI k), .int (nI s)] (am_mk I L, 0, 0) R := by
  obtain ⟨d, rfl⟩ : ∃ e, d = e + 1 := ⟨d - 1, by omega⟩
  refine ar_in rfl rfl rfl (r_M_isLate_0 ?_)
  have mc := hm.1; have mf := hm.2
  have hn := hv.1.2.2.2.1
  have hn2 := hn.2
  have en : I 113 14 = nI (am_n V 113 14) := by rw [mf 14 rfl]; exact hn.1
  have h60 : s < 60 := by omega
  have q125 : I 125 = V 125 := mc 125 rfl
  have q122 : I 122 = V 122 := mc 122 rfl
  have ix : ∀ j, j < 60 → am_ix I 125 j 20 := fun j hj => by
    unfold am_ix am_n; rw [q125]; exact (hv.2.2.2.1.1 j hj).1
  have t43 : ∀ j, j < 60 → I 122 (am_n I 125 j) = nI (s_tn V j) := fun j hj => by
    have := (tn_ix hv hj).1
    rw [q122, ← this]; unfold am_n; rw [q125]
  have t10 : ∀ j, j < 60 → s_tn V j < 10 := fun j hj => (tn_ix hv hj).2
  have k17 := (hv.2.2.1 k hk).1
  refine am_up (P := fun j => am_Run am_X0 (am_meth d) 168 R 8 [some (.ref 113), some (.int (nI k)), some (.int (nI s)), some (.int (am_on (-1) (s_last V (nI k) (V 126 s) j))), some (.int (am_on (-1) (s_nxt V (nI k) (V 127 s) j))), some (.int (nI j))] [] (am_mk I L, 0, 0)) (n := am_n V 113 14) ?_ (fun j hj ih => ?_)
  · refine r_M_isLate_8 (by omega) ⟨fun c => absurd (en ▸ c) (nI_nlt (Nat.le_refl _) (by omega)), fun _ => ⟨h60, ix s h60, ?_⟩⟩
    rw [mc 126 rfl, mc 127 rfl, mf 0 rfl, mc 115 rfl]
    unfold s_late at h1 h0
    have sec : s_lt1 V k s = false → (am_on (-1) (s_nxt V (nI k) (V 127 s) (am_n V 113 14)) < 0 → R (some (.int 0)) (am_mk I L, 0, 0)) ∧ (¬ am_on (-1) (s_nxt V (nI k) (V 127 s) (am_n V 113 14)) < 0 → ∃ j_50, am_on (-1) (s_nxt V (nI k) (V 127 s) (am_n V 113 14)) = nI j_50 ∧ j_50 < 60 ∧ am_ix I 125 j_50 20 ∧ ∃ j_54, j_54 < 60 ∧ am_on (-1) (s_nxt V (nI k) (V 127 s) (am_n V 113 14)) = nI j_54 ∧ ∃ j_57, I 122 (am_n I 125 s) = nI j_57 ∧ ∃ j_59, I 122 (am_n I 125 j_50) = nI j_59 ∧ j_57 < 10 ∧ j_59 < 10 ∧ (V 126 j_54 - V 127 s < (V 115 (10 * j_57 + j_59) + 23) / 24 → R (some (.int 1)) (am_mk I L, 0, 0)) ∧ (¬ V 126 j_54 - V 127 s < (V 115 (10 * j_57 + j_59) + 23) / 24 → R (some (.int 0)) (am_mk I L, 0, 0))) := by
      intro l1
      rw [l1, Bool.false_or] at h1 h0
      cases e : s_nxt V (nI k) (V 127 s) (am_n V 113 14) with
      | none =>
        have l2 : s_lt2 V k s = false := by unfold s_lt2; rw [e]
        exact ⟨fun _ => h0 l2, fun q => absurd (show (-1 : Int32) < 0 by decide) q⟩
      | some q =>
        have hq := ((w_F_nxt (V := V) (k := nI k) (day := V 127 s) (am_n V 113 14)).2 q e).1
        have hq60 : q < 60 := by omega
        have l2 : s_lt2 V k s = s_far V (s_tn V s) (s_tn V q) (V 126 q - V 127 s) := by unfold s_lt2; rw [e]
        rw [l2] at h1 h0
        exact ⟨fun z => absurd z (nI_pos (n := q) (by omega)), fun _ => ⟨q, rfl, hq60, ix q hq60, q, hq60, rfl, s_tn V s, t43 s h60, s_tn V q, t43 q hq60, t10 s h60, t10 q hq60, fun c => h1 (decide_eq_true_iff.mpr c), fun c => h0 (decide_eq_false c)⟩⟩
    cases e : s_last V (nI k) (V 126 s) (am_n V 113 14) with
    | none =>
      have l1 : s_lt1 V k s = s_far V (am_n V 117 k) (s_tn V s) (V 126 s - V 113 0) := by unfold s_lt1; rw [e]
      refine ⟨fun _ => ⟨hk, h60, am_n V 117 k, by rw [mc 117 rfl]; exact k17.1, s_tn V s, t43 s h60, k17.2, t10 s h60, fun c => h1 ?_, fun c => sec ?_⟩, fun q => absurd (show (-1 : Int32) < 0 by decide) q⟩
      · rw [l1, show s_far V (am_n V 117 k) (s_tn V s) (V 126 s - V 113 0) = true from decide_eq_true_iff.mpr c, Bool.true_or]
      · rw [l1]; exact decide_eq_false c
    | some p =>
      have hp := s_last_lt e
      have hp60 : p < 60 := by omega
      have l1 : s_lt1 V k s = s_far V (s_tn V p) (s_tn V s) (V 126 s - V 127 p) := by unfold s_lt1; rw [e]
      refine ⟨fun z => absurd z (nI_pos (n := p) (by omega)), fun _ => ⟨p, rfl, hp60, ix p hp60, h60, p, hp60, rfl, s_tn V p, t43 p hp60, s_tn V s, t43 s h60, t10 p hp60, t10 s h60, fun c => h1 ?_, fun c => sec ?_⟩⟩
      · rw [l1, show s_far V (s_tn V p) (s_tn V s) (V 126 s - V 127 p) = true from decide_eq_true_iff.mpr c, Bool.true_or]
      · rw [l1]; exact decide_eq_false c
  · have lp : ∀ i, s_last V (nI k) (V 126 s) j = some i → i < 60 := fun i e => by have := s_last_lt e; omega
    have lq : ∀ i, s_nxt V (nI k) (V 127 s) j = some i → i < 60 := fun i e => by have := ((w_F_nxt (V := V) (k := nI k) (day := V 127 s) j).2 i e).1; omega
    have np := on_neg lp
    have nq := on_neg lq
    have ex : ∀ o : Option Nat, (∀ i, o = some i → i < 60) → ¬ am_on (-1) o < 0 → ∃ i, i < 60 ∧ o = some i := fun o f g => by
      cases o with
      | none => exact absurd (show (-1 : Int32) < 0 by decide) g
      | some i => exact ⟨i, f i rfl, rfl⟩
    have go : ∀ o1 o2, s_last V (nI k) (V 126 s) (j + 1) = o1 → s_nxt V (nI k) (V 127 s) (j + 1) = o2 → am_Run am_X0 (am_meth d) 168 R 8 [some (.ref 113), some (.int (nI k)), some (.int (nI s)), some (.int (am_on (-1) o1)), some (.int (am_on (-1) o2)), some (.int (nI (j + 1)))] [] (am_mk I L, 0, 0) := fun o1 o2 a b => by rw [← a, ← b]; exact ih
    have skip : ¬ (V 128 j = 1 ∧ V 129 j = nI k) → am_Run am_X0 (am_meth d) 168 R 8 [some (.ref 113), some (.int (nI k)), some (.int (nI s)), some (.int (am_on (-1) (s_last V (nI k) (V 126 s) j))), some (.int (am_on (-1) (s_nxt V (nI k) (V 127 s) j))), some (.int (nI (j + 1)))] [] (am_mk I L, 0, 0) := fun c => go _ _ (la_skip (fun q => c q.1)) (nx_skip (fun q => c q.1))
    refine r_M_isLate_8 (by omega) ⟨fun _ => ?_, fun c => absurd (by rw [en]; exact nI_lt hj (by omega)) c⟩
    rw [mc 128 rfl, mc 129 rfl, mc 126 rfl, mc 127 rfl]
    refine ⟨fun c => skip (fun q => ?_), fun c => ⟨by omega, fun hh => ⟨by omega, h60, ?_⟩, fun hh => skip hh⟩⟩
    · rw [nI_eq (by omega) (by omega)] at c
      subst c
      rw [ho] at q
      exact absurd q.1 (by decide)
    · -- the next, whatever the last is
      have nx : ∀ (x : Int32) (o1 : Option Nat), s_last V (nI k) (V 126 s) (j + 1) = o1 → x = am_on (-1) o1 → (V 126 j ≤ V 127 s → am_Run am_X0 (am_meth d) 168 R 8 [some (.ref 113), some (.int (nI k)), some (.int (nI s)), some (.int x), some (.int (am_on (-1) (s_nxt V (nI k) (V 127 s) j))), some (.int (nI (j + 1)))] [] (am_mk I L, 0, 0)) ∧ (¬ V 126 j ≤ V 127 s → (am_on (-1) (s_nxt V (nI k) (V 127 s) j) < 0 → am_Run am_X0 (am_meth d) 168 R 8 [some (.ref 113), some (.int (nI k)), some (.int (nI s)), some (.int x), some (.int (nI j)), some (.int (nI (j + 1)))] [] (am_mk I L, 0, 0)) ∧ (¬ am_on (-1) (s_nxt V (nI k) (V 127 s) j) < 0 → ∃ i, i < 60 ∧ am_on (-1) (s_nxt V (nI k) (V 127 s) j) = nI i ∧ (V 126 j < V 126 i → am_Run am_X0 (am_meth d) 168 R 8 [some (.ref 113), some (.int (nI k)), some (.int (nI s)), some (.int x), some (.int (nI j)), some (.int (nI (j + 1)))] [] (am_mk I L, 0, 0)) ∧ (¬ V 126 j < V 126 i → am_Run am_X0 (am_meth d) 168 R 8 [some (.ref 113), some (.int (nI k)), some (.int (nI s)), some (.int x), some (.int (am_on (-1) (s_nxt V (nI k) (V 127 s) j))), some (.int (nI (j + 1)))] [] (am_mk I L, 0, 0)))) := by
        rintro _ o1 e1 rfl
        refine ⟨fun c => go _ _ e1 (nx_skip (fun q => q.2 c)), fun c => ⟨fun c2 => go _ (some j) e1 (nx_0 ⟨hh, c⟩ (nq.mp c2)), fun c2 => ?_⟩⟩
        obtain ⟨i, hi, e⟩ := ex _ lq c2
        rw [e]
        exact ⟨i, hi, rfl, fun c3 => go _ (some j) e1 (nx_n ⟨hh, c⟩ e c3), fun c3 => go _ (some i) e1 (nx_k ⟨hh, c⟩ e c3)⟩
      refine ⟨fun c1 => ⟨fun c2 => nx _ (some j) (la_0 ⟨hh, c1⟩ (np.mp c2)) rfl, fun c2 => ?_⟩, fun c1 => nx _ _ (la_skip (fun q => c1 q.2)) rfl⟩
      obtain ⟨i, hi, e⟩ := ex _ lp c2
      refine ⟨i, hi, by rw [e]; rfl, fun c3 => ?_, fun c3 => nx _ (some j) (la_n ⟨hh, c1⟩ e c3) rfl⟩
      exact nx _ (some i) (la_k ⟨hh, c1⟩ e c3) (by rw [e])
end ML
