/-! stars, stay, count -/
theorem s_n_t {P : Nat → Bool} {s : Nat} (h : P s = true) : s_n P (s + 1) = s_n P s + 1 := by rw [s_n, if_pos h]
theorem s_n_f {P : Nat → Bool} {s : Nat} (h : ¬ P s = true) : s_n P (s + 1) = s_n P s := by rw [s_n, if_neg h]
theorem s_s_t {P : Nat → Bool} {x : Nat → Int32} {s : Nat} (h : P s = true) : s_s P x (s + 1) = s_s P x s + x s := by rw [s_s, if_pos h]
theorem s_s_f {P : Nat → Bool} {x : Nat → Int32} {s : Nat} (h : ¬ P s = true) : s_s P x (s + 1) = s_s P x s := by rw [s_s, if_neg h]
section OP7
variable {d : Nat} {I V : am_V} {L : Nat → Nat → Int64} {R : am_R}
def s_hP (V : am_V) (ho k : Int32) (side s : Nat) : Bool := decide (V 125 s = ho) && s_ct (V 130) (V 131) (V 127) s side k
theorem hP_iff {V : am_V} {ho k : Int32} {side s : Nat} : s_hP V ho k side s = true ↔ V 125 s = ho ∧ s_ct (V 130) (V 131) (V 127) s side k = true := by unfold s_hP; rw [Bool.and_eq_true_iff, decide_eq_true_iff]
def s_mean (V : am_V) (ho k : Int32) (n : Nat) : Int32 := if s_n (s_hP V ho k 1) n = 0 then -9 else 100 * s_s (s_hP V ho k 1) (fun s => V 130 (2 * s + 1)) n / s_n (s_hP V ho k 1) n
theorem ok_Re_meanOfHouse {ho : Int32} {k : Nat} (hd : 2 ≤ d) (hc : RC I V) (hv : Inv V) (hk : k ≤ 1500) (h : R (some (.int (s_mean V ho (nI k) (am_n V 113 14)))) (am_mk I L, 0, 0)) : am_meth d 83 [.ref 74, .int ho, .int (nI k)] (am_mk I L, 0, 0) R := by
  obtain ⟨d, rfl⟩ : ∃ e, d = e + 1 := ⟨d - 1, by omega⟩
  refine ar_in rfl rfl rfl (r_Reviews_meanOfHouse_0 ?_)
  obtain ⟨⟨n1, n2, n3, n4, n5, n6, n7, n8⟩, ⟨e1, e2, e3, e4, e5, e6, e7, e8, e9, e10, e11, e12, e13, e14, e15, e16, e17⟩, -⟩ := id hc
  have hn := hv.1.2.2.2.1
  have hn2 := hn.2
  have en : I 66 1 = nI (am_n V 113 14) := by rw [n4]; exact hn.1
  refine am_up (P := fun s => am_Run am_X0 (am_meth d) 83 R 8 [some (.ref 74), some (.int ho), some (.int (nI k)), some (.int (s_s (s_hP V ho (nI k) 1) (fun s => V 130 (2 * s + 1)) s)), some (.int (s_n (s_hP V ho (nI k) 1) s)), some (.int (nI s))] [] (am_mk I L, 0, 0)) (n := am_n V 113 14) ?_ (fun s hs ih => ?_)
  · refine r_Reviews_meanOfHouse_8 (by omega) ⟨fun c => absurd (en ▸ c) (nI_nlt (Nat.le_refl _) (by omega)), fun _ => ?_⟩
    unfold s_mean at h
    refine ⟨fun c => ?_, fun c => ⟨c, ?_⟩⟩
    · rw [if_pos c] at h; exact h
    · rw [if_neg c] at h; exact h
  · have h60 : s < 60 := by omega
    have g := cg_1 hc hv h60 hk
    refine r_Reviews_meanOfHouse_8 (by omega) ⟨fun _ => ⟨h60, ?_⟩, fun c => absurd (by rw [en]; exact nI_lt hs (by omega)) c⟩
    rw [e10]
    refine ⟨fun c => ⟨h60, fun c2 => ?_, fun c2 => ?_⟩, fun c => ?_⟩
    · rw [(hc.2.2.2.1.1 s h60).2.1]
      have q := hP_iff.mpr ⟨c, g.mp c2⟩
      rw [s_n_t q, s_s_t q] at ih
      exact ih
    · have q := fun w => c2 (g.mpr (hP_iff (ho := ho).mp w).2)
      rw [s_n_f q, s_s_f q] at ih
      exact ih
    · have q := fun w => c (hP_iff (k := nI k) (side := 1).mp w).1
      rw [s_n_f q, s_s_f q] at ih
      exact ih
def o_stars (V : am_V) (ho k : Int32) : Int32 × am_V := if 0 ≤ ho ∧ ho < V 113 10 then (if k < 0 then o_no V 4 (-4) else if k ≤ V 113 0 then (s_mean V ho k (am_n V 113 14), V) else o_no V 6 (-6)) else o_no V 1 (-1)
theorem C_stars {ho k : Int32} (hd : 3 ≤ d) (hc : RC I V) (hv : Inv V) (h : ∀ I' L', RC I' (o_stars V ho k).2 → am_hi I' I → R (some (.int (o_stars V ho k).1)) (am_mk I' L', 0, 0)) : am_meth d 23 [.ref 0, .int ho, .int k] (am_mk I L, 0, 0) R := by
  obtain ⟨d, rfl⟩ : ∃ e, d = e + 1 := ⟨d - 1, by omega⟩
  refine ar_in rfl rfl rfl (r_H_stars_0 (by omega) ?_)
  obtain ⟨⟨n1, n2, n3, n4, n5, n6, n7, n8⟩, ⟨e1, e2, e3, e4, e5, e6, e7, e8, e9, e10, e11, e12, e13, e14, e15, e16, e17⟩, -⟩ := id hc
  rw [n2, n3]
  unfold o_stars at h
  have ht := hv.1.1
  have ht2 := ht.2
  refine ⟨fun c => ⟨fun c2 => ?_, fun c2 => ?_, fun c2 => ?_⟩, fun c => ?_⟩
  · (rw [if_pos c, if_pos c2] at h; exact h _ _ (RC_no hc) (hi_up (by decide) hi_r))
  · rw [if_pos c, if_neg c2.1, if_neg (Int32.not_le.mpr c2.2)] at h; (exact h _ _ (RC_no hc) (hi_up (by decide) hi_r))
  · rw [if_pos c, if_neg c2.1, if_pos (Int32.not_lt.mp c2.2)] at h
    obtain ⟨i, hi, rfl⟩ := nI_of (x := k) c2.1
    rw [ht.1] at c2
    have c3 := (nI_leI hi (by omega)).mp (Int32.not_lt.mp c2.2)
    exact ok_Re_meanOfHouse (by omega) hc hv (by omega) ⟨_, _, _, rfl, rfl, h _ _ hc hi_r⟩
  · (rw [if_neg c] at h; exact h _ _ (RC_no hc) (hi_up (by decide) hi_r))
theorem e_2 {s : Nat} : 2 * s / 2 = s := by omega
theorem e_2m {s : Nat} : 2 * s % 2 = 0 := by omega
theorem e_21 {s : Nat} : (2 * s + 1) / 2 = s := by omega
theorem e_21m {s : Nat} : (2 * s + 1) % 2 = 1 := by omega
theorem M_stars {ho k : Int32} (hd : 3 ≤ d) (hm : RM I V) (hv : Inv V) (h : ∀ I' L', RM I' (o_stars V ho k).2 → am_lo I' I → R (some (.int (o_stars V ho k).1)) (am_mk I' L', 0, 0)) : am_meth d 204 [.ref 113, .int ho, .int k] (am_mk I L, 0, 0) R := by
  obtain ⟨d, rfl⟩ : ∃ e, d = e + 1 := ⟨d - 1, by omega⟩
  refine ar_in rfl rfl rfl (r_M_stars_0 (by omega) ?_)
  have mc := hm.1; have mf := hm.2
  rw [mf 10 rfl, mf 0 rfl]
  unfold o_stars at h
  have hn := hv.1.2.2.2.1
  have hn2 := hn.2
  have en : I 113 14 = nI (am_n V 113 14) := by rw [mf 14 rfl]; exact hn.1
  refine ⟨fun c => ⟨fun c2 => ?_, fun c2 => ⟨fun c3 => ?_, fun c3 => ?_⟩⟩, fun c => ?_⟩
  · (rw [if_pos c, if_pos c2] at h; exact h _ _ (RM_no hm) (lo_up (by decide) lo_r))
  · rw [if_pos c, if_neg c2, if_pos c3] at h
    refine am_up (P := fun s => am_Run am_X0 (am_meth d) 204 R 48 [some (.ref 113), some (.int ho), some (.int k), some (.int (s_n (s_hP V ho k 1) s)), some (.int (s_s (s_hP V ho k 1) (fun s => V 130 (2 * s + 1)) s)), some (.int (nI s))] [] (am_mk I L, 0, 0)) (n := am_n V 113 14) ?_ (fun s hs ih => ?_)
    · refine r_M_stars_48 (by omega) ⟨fun c => absurd (en ▸ c) (nI_nlt (Nat.le_refl _) (by omega)), fun _ => ?_⟩
      unfold s_mean at h
      refine ⟨fun c => ?_, fun c => ⟨c, ?_⟩⟩
      · (rw [if_pos c] at h; exact h _ _ hm lo_r)
      · (rw [if_neg c] at h; exact h _ _ hm lo_r)
    · have h60 : s < 60 := by omega
      refine r_M_stars_48 (by omega) ⟨fun _ => ⟨h60, ?_⟩, fun c => absurd (by rw [en]; exact nI_lt hs (by omega)) c⟩
      rw [mc 125 rfl]
      refine ⟨fun c => ⟨2 * s + 1, am_2s1, by omega, ?_⟩, fun c => ?_⟩
      · rw [e_21, e_21m, mc 130 rfl, mc 131 rfl, mc 127 rfl]
        refine ⟨fun c2 => ⟨2 * s + 1, by omega, am_2s1, ?_⟩, fun c2 => ?_⟩
        · have q := hP_iff.mpr ⟨c, c2⟩
          rw [s_n_t q, s_s_t q] at ih
          exact ih
        · have q := fun w => c2 (hP_iff (ho := ho).mp w).2
          rw [s_n_f q, s_s_f q] at ih
          exact ih
      · have q := fun w => c (hP_iff (k := k) (side := 1).mp w).1
        rw [s_n_f q, s_s_f q] at ih
        exact ih
  · (rw [if_pos c, if_neg c2, if_neg c3] at h; exact h _ _ (RM_no hm) (lo_up (by decide) lo_r))
  · (rw [if_neg c] at h; exact h _ _ (RM_no hm) (lo_up (by decide) lo_r))
theorem I_stars {ho k : Int32} (hv : Inv V) : Inv (o_stars V ho k).2 := by
  unfold o_stars
  repeat' split
  all_goals exact hv
/-! stay -/
theorem dw_pos {f t a b : Nat} (h1 : f ≤ t) (h2 : a ≤ b) (ht : t ≤ 1500) (hb : b ≤ 1500) : ¬ am_dw (nI f) (nI t) (nI a) (nI b) ≤ 0 ↔ f ≤ b ∧ a ≤ t := by
  unfold am_dw
  have e1 : (if nI b < nI t then nI b else nI t) = nI (if b < t then b else t) := by
    by_cases q : b < t
    · rw [if_pos q, if_pos (nI_lt q (by omega))]
    · rw [if_neg q, if_neg (nI_nlt (by omega) (by omega))]
  have e2 : (if nI f < nI a then nI a else nI f) = nI (if f < a then a else f) := by
    by_cases q : f < a
    · rw [if_pos q, if_pos (nI_lt q (by omega))]
    · rw [if_neg q, if_neg (nI_nlt (by omega) (by omega))]
  rw [e1, e2]
  have hx : (if b < t then b else t) ≤ 1500 := by split <;> omega
  have hy : (if f < a then a else f) ≤ 1500 := by split <;> omega
  have hz : f ≤ b ∧ a ≤ t ↔ (if f < a then a else f) ≤ (if b < t then b else t) := by split <;> split <;> omega
  rw [hz]
  generalize (if b < t then b else t) = x at hx
  generalize (if f < a then a else f) = y at hy
  by_cases q : y ≤ x
  · have e3 : nI x - nI y + 1 = nI (x - y + 1) := by rw [pk_sub q, nI_1]
    rw [e3, if_neg (nI_pos (by omega))]
    exact ⟨fun _ => q, fun _ => nI_nle (by omega) (by omega)⟩
  · have e3 : nI x - nI y + 1 ≤ 0 := by
      have : nI x - nI y + 1 = nI (x + 1) - nI y := by
        rw [← nI_1, Int32.sub_eq_add_neg, Int32.sub_eq_add_neg, Int32.add_assoc, Int32.add_comm (-nI y) 1, ← Int32.add_assoc]
      rw [this, Int32.le_iff_toInt_le, pk_sub_toInt (by omega) (by omega)]
      show ((x + 1 : Nat) : Int) - (y : Int) ≤ 0
      omega
    refine ⟨fun w => absurd ?_ w, fun w => absurd w q⟩
    split
    · decide
    · exact e3
def s_kept (V : am_V) (ho a b : Int32) (s : Nat) : Bool := decide (V 125 s = ho ∧ V 128 s < 2 ∧ V 126 s ≤ b ∧ ¬ V 127 s < a)
def o_stay (V : am_V) (ho a b : Int32) : Int32 × am_V := if 0 ≤ ho ∧ ho < V 113 10 then (if a ≤ V 113 0 ∨ b < a then o_no V 4 (-4) else if b ≤ 1500 ∧ ¬ V 113 14 = 60 then (if s_any (s_kept V ho a b) (am_n V 113 14) = true then o_no V 3 (-3) else (V 113 14, va_up (va_up (va_up (va_up (va_up (va_up V 125 (upd (V 125) (am_n V 113 14) ho)) 126 (upd (V 126) (am_n V 113 14) a)) 127 (upd (V 127) (am_n V 113 14) b)) 128 (upd (V 128) (am_n V 113 14) 0)) 129 (upd (V 129) (am_n V 113 14) (-9))) 113 (upd (V 113) 14 (V 113 14 + 1)))) else o_no V 6 (-6)) else o_no V 1 (-1)
theorem kept_iff {ho a b : Int32} {s : Nat} : s_kept V ho a b s = true ↔ V 125 s = ho ∧ V 128 s < 2 ∧ V 126 s ≤ b ∧ ¬ V 127 s < a := by unfold s_kept; exact decide_eq_true_iff
theorem st_lt2 {s : Nat} (hv : Inv V) (hs : s < 60) : V 128 s < 2 ↔ ¬ V 128 s = 2 := by
  have q := (hv.2.2.2.1.1 s hs).2.2.2.1
  have q2 := q.2
  rw [q.1, show (2 : Int32) = nI 2 from rfl, nI_ltI (by omega) (by decide), nI_eq (by omega) (by decide)]
  omega
theorem ok_St_isHouseKept {ho : Int32} {a b : Nat} (hd : 3 ≤ d) (hc : RC I V) (hv : Inv V) (hab : a ≤ b) (hb : b ≤ 1500) (h1 : s_any (s_kept V ho (nI a) (nI b)) (am_n V 113 14) = true → R (some (.int 1)) (am_mk I L, 0, 0)) (h0 : s_any (s_kept V ho (nI a) (nI b)) (am_n V 113 14) = false → R (some (.int 0)) (am_mk I L, 0, 0)) : am_meth d 115 [.ref 66, .int ho, .int (nI a), .int (nI b)] (am_mk I L, 0, 0) R := by
  obtain ⟨d, rfl⟩ : ∃ e, d = e + 1 := ⟨d - 1, by omega⟩
  refine ar_in rfl rfl rfl (r_Stays_isHouseKept_0 ?_)
  obtain ⟨⟨n1, n2, n3, n4, n5, n6, n7, n8⟩, ⟨e1, e2, e3, e4, e5, e6, e7, e8, e9, e10, e11, e12, e13, e14, e15, e16, e17⟩, -⟩ := id hc
  have hn := hv.1.2.2.2.1
  have hn2 := hn.2
  have en : I 66 1 = nI (am_n V 113 14) := by rw [n4]; exact hn.1
  refine am_up (P := fun s => s_any (s_kept V ho (nI a) (nI b)) s = false → am_Run am_X0 (am_meth d) 115 R 3 [some (.ref 66), some (.int ho), some (.int (nI a)), some (.int (nI b)), some (.int (nI s)), none] [] (am_mk I L, 0, 0)) (n := am_n V 113 14) (fun hf => ?_) (fun s hs ih hf => ?_) rfl
  · exact r_Stays_isHouseKept_3 (by omega) ⟨fun c => absurd (en ▸ c) (nI_nlt (Nat.le_refl _) (by omega)), fun _ => h0 hf⟩
  · have h60 : s < 60 := by omega
    have vf := (hv.2.2.2.1.1 s h60).2.1
    have vt := (hv.2.2.2.1.1 s h60).2.2.1
    have vo := (hv.2.2.2.1.2 s hs).1.1
    have vt2 := vt.2
    have ih2 : ¬ s_kept V ho (nI a) (nI b) s = true → _ := fun q => ih (by
      rw [s_any, hf, Bool.false_or]; exact Bool.eq_false_iff.mpr q)
    rw [kept_iff] at ih2
    refine r_Stays_isHouseKept_3 (by omega) ⟨fun _ => ⟨h60, ?_⟩, fun c => absurd (by rw [en]; exact nI_lt hs (by omega)) c⟩
    have dw := dw_pos (f := am_n V 126 s) (t := am_n V 127 s) (a := a) (b := b) vo hab (by omega) hb
    rw [← vf.1, ← vt.1] at dw
    have dw2 : ¬ am_dw (V 126 s) (V 127 s) (nI a) (nI b) ≤ 0 ↔ V 126 s ≤ nI b ∧ ¬ V 127 s < nI a := by
      rw [dw, vf.1, vt.1, nI_leI (by omega) (by omega), nI_ltI (by omega) (by omega)]
      omega
    rw [e10, e11, e12, e13]
    refine ⟨fun c => ⟨fun c2 => ih2 (fun q => (st_lt2 hv h60).mp q.2.1 c2), fun c2 => ⟨h60, fun c3 => ih2 (fun q => dw2.mpr q.2.2 c3), fun c3 => h1 (s_any_of hs (kept_iff.mpr ⟨c, (st_lt2 hv h60).mpr c2, dw2.mp c3⟩))⟩⟩, fun c => ih2 (fun q => c q.1)⟩
theorem s_n_ext {P Q : Nat → Bool} {n : Nat} (h : ∀ s, s < n → Q s = P s) (hn : ¬ Q n = true) : s_n Q (n + 1) = s_n P n := by rw [s_n_f hn]; exact s_n_congr h
theorem s_s_ext {P Q : Nat → Bool} {x y : Nat → Int32} {n : Nat} (h : ∀ s, s < n → Q s = P s) (hx : ∀ s, s < n → Q s = true → y s = x s) (hn : ¬ Q n = true) : s_s Q y (n + 1) = s_s P x n := by rw [s_s_f hn]; exact s_s_congr h hx
theorem ct_T {S D T T' : Nat → Int32} {s side : Nat} {k : Int32} (h : T' s = T s) : s_ct S D T' s side k = s_ct S D T s side k := by unfold s_ct; rw [h]
theorem ct_0 {S D T : Nat → Int32} {s : Nat} {k : Int32} (h : S (2 * s) = 0) : ¬ s_ct S D T s 0 k = true := by rw [ct_iff]; exact fun q => q.1.1 h
theorem hand_grow {H H' S D T T' : Nat → Int32} {n : Nat} {h k : Int32} (gH : ∀ s, s < n → H' s = H s) (gT : ∀ s, s < n → T' s = T s) (gS : S (2 * n) = 0) : s_hand H' S D T' (n + 1) h k = s_hand H S D T n h k := by
  unfold s_hand
  rw [s_n_ext (P := fun s => decide (H s = h) && s_ct S D T s 0 k) (fun s hs => by rw [gH s hs, ct_T (gT s hs)]) (fun q => ct_0 gS (Bool.and_eq_true_iff.mp q).2), s_s_ext (P := fun s => decide (H s = h) && s_ct S D T s 0 k) (x := fun s => S (2 * s)) (fun s hs => by rw [gH s hs, ct_T (gT s hs)]) (fun s hs _ => rfl) (fun q => ct_0 gS (Bool.and_eq_true_iff.mp q).2)]
theorem kn_grow {W W' S D T T' : Nat → Int32} {n : Nat} {h k : Int32} (gW : ∀ s, s < n → W' s = W s) (gT : ∀ s, s < n → T' s = T s) (gS : S (2 * n) = 0) : s_kn W' S D T' (n + 1) h k = s_kn W S D T n h k := by
  unfold s_kn
  exact s_n_ext (P := fun s => decide (W s = h) && s_ct S D T s 0 k) (fun s hs => by rw [gW s hs, ct_T (gT s hs)]) (fun q => ct_0 gS (Bool.and_eq_true_iff.mp q).2)
theorem trust_grow {H H' W W' S D T T' : Nat → Int32} {n : Nat} {h k : Int32} (gH : ∀ s, s < n → H' s = H s) (gW : ∀ s, s < n → W' s = W s) (gT : ∀ s, s < n → T' s = T s) (gS : S (2 * n) = 0) : s_trust H' W' S D T' (n + 1) h k = s_trust H W S D T n h k := by
  unfold s_trust
  rw [kn_grow gW gT gS, s_s_ext (P := fun s => decide (W s = h) && s_ct S D T s 0 k) (x := fun s => 100 * S (2 * s) - s_hand H S D T n (H s) k) (fun s hs => by rw [gW s hs, ct_T (gT s hs)]) (fun s hs _ => by rw [hand_grow gH gT gS, gH s hs]) (fun q => ct_0 gS (Bool.and_eq_true_iff.mp q).2)]
theorem C_stay {ho a b : Int32} (hd : 4 ≤ d) (hc : RC I V) (hv : Inv V) (h : ∀ I' L', RC I' (o_stay V ho a b).2 → am_hi I' I → R (some (.int (o_stay V ho a b).1)) (am_mk I' L', 0, 0)) : am_meth d 9 [.ref 0, .int ho, .int a, .int b] (am_mk I L, 0, 0) R := by
  obtain ⟨d, rfl⟩ : ∃ e, d = e + 1 := ⟨d - 1, by omega⟩
  refine ar_in rfl rfl rfl (r_H_stay_0 (by omega) ?_)
  obtain ⟨⟨n1, n2, n3, n4, n5, n6, n7, n8⟩, ⟨e1, e2, e3, e4, e5, e6, e7, e8, e9, e10, e11, e12, e13, e14, e15, e16, e17⟩, -⟩ := id hc
  rw [n2, n3, n4]
  unfold o_stay at h
  have hn := hv.1.2.2.2.1
  have hn2 := hn.2
  have ht := hv.1.1
  have ht2 := ht.2
  refine ⟨fun c => ⟨fun c1 => ?_, fun c1 => ⟨fun c2 => ?_, fun c2 => ⟨fun c3 => ⟨fun c4 => ?_, fun c4 => ?_⟩, fun c3 => ?_⟩⟩⟩, fun c => ?_⟩
  · rw [if_pos c, if_pos (Or.inl c1)] at h; (exact h _ _ (RC_no hc) (hi_up (by decide) hi_r))
  · rw [if_pos c, if_pos (Or.inr c2)] at h; (exact h _ _ (RC_no hc) (hi_up (by decide) hi_r))
  · have c8 : ¬ V 113 14 = 60 := fun e => by rw [e] at c4; exact absurd c4 (by decide)
    rw [if_pos c, if_neg (fun q => q.elim c1 c2), if_pos ⟨c3, c8⟩] at h
    have hx := lt_nI hn (by decide) c8
    have a0 : ¬ a < 0 := fun q => c1 (by
      rw [ht.1]
      have := nI_pos' (n := am_n V 113 0) (by omega)
      (simp (disch := omega) only [Int32.lt_iff_toInt_lt, Int32.le_iff_toInt_le, ← Int32.toInt_inj, Int32.reduceToInt, nI_toInt] at *; omega))
    have b0 : ¬ b < 0 := by (simp (disch := omega) only [Int32.lt_iff_toInt_lt, Int32.le_iff_toInt_le, ← Int32.toInt_inj, Int32.reduceToInt, nI_toInt] at *; omega)
    obtain ⟨na, ha, rfl⟩ := nI_of (x := a) a0
    obtain ⟨nb, hb, rfl⟩ := nI_of (x := b) b0
    have c3' := (nI_leI (b := 1500) hb (by decide)).mp c3
    have c2' := (nI_leI ha hb).mp (Int32.not_lt.mp c2)
    refine ok_St_isHouseKept (by omega) hc hv c2' c3' (fun k => ⟨_, _, _, rfl, rfl, fun q => absurd q (by decide), fun _ => ?_⟩) (fun k => ⟨_, _, _, rfl, rfl, fun _ => ?_, fun q => absurd rfl q⟩)
    · rw [if_pos k] at h; (exact h _ _ (RC_no hc) (hi_up (by decide) hi_r))
    · rw [if_neg (by rw [k]; decide)] at h
      have e0 : am_n I 66 1 = am_n V 113 14 := by unfold am_n; rw [n4]
      refine ⟨⟨by rw [e0, n4]; exact hn.1, by rw [e0]; exact hx⟩, ?_⟩
      rw [n4]
      have hmk : am_mk (am_sa I ho (nI na) (nI nb)) L = am_mk (am_sa I ho (nI na) (nI nb)) L := rfl
      refine h _ _ ?_ (hi_up (by decide) (hi_up (by decide) (hi_up (by decide) (hi_up (by decide) hi_r))))
      unfold am_sa
      rw [e0, n4, e10, e11, e12]
      obtain ⟨h1, h2, ⟨h3, h4, h5, h6, h7⟩, h8, h9, h10⟩ := hc
      have z0 : V 128 (am_n V 113 14) = 0 := (hv.2.2.2.1.1 _ hx).2.2.2.2 (Nat.le_refl _)
      have en : am_n (va_up (va_up (va_up (va_up (va_up (va_up V 125 (upd (V 125) (am_n V 113 14) ho)) 126 (upd (V 126) (am_n V 113 14) (nI na))) 127 (upd (V 127) (am_n V 113 14) (nI nb))) 128 (upd (V 128) (am_n V 113 14) 0)) 129 (upd (V 129) (am_n V 113 14) (-9))) 113 (upd (V 113) 14 (V 113 14 + 1))) 113 14 = am_n V 113 14 + 1 := by
        show (V 113 14 + 1).toNatClampNeg = _
        rw [hn.1, nI_1, nI_clamp (by omega)]
      have r0 : V 130 (2 * am_n V 113 14) = 0 := by
        apply Decidable.byContradiction; intro q
        have := ((hv.2.2.2.2.2.1.1 _ (by omega)).2 q).1
        omega
      have r1 : V 130 (2 * am_n V 113 14 + 1) = 0 := by
        apply Decidable.byContradiction; intro q
        have := ((hv.2.2.2.2.2.1.1 _ (by omega)).2 q).1
        omega
      have gH : ∀ s, s < am_n V 113 14 → upd (V 125) (am_n V 113 14) ho s = V 125 s := fun s hs => by rw [am_uat, if_neg (by omega)]
      have gT : ∀ s, s < am_n V 113 14 → upd (V 127) (am_n V 113 14) (nI nb) s = V 127 s := fun s hs => by rw [am_uat, if_neg (by omega)]
      have gW : ∀ s, s < am_n V 113 14 → upd (V 129) (am_n V 113 14) (-9) s = V 129 s := fun s hs => by rw [am_uat, if_neg (by omega)]
      refine ⟨⟨h1.1, h1.2.1, h1.2.2.1, rfl, h1.2.2.2.2⟩, ⟨e1, e2, e3, e4, e5, e6, e7, e8, e9, rfl, rfl, rfl, ?_, h2.2.2.2.2.2.2.2.2.2.2.2.2.2⟩, ⟨h3, h4, h5, fun s hs => ?_, h7⟩, ⟨h8.1, ?_⟩, ?_, h10⟩
      · show I 70 = upd (V 128) (am_n V 113 14) 0
        rw [e13]
        funext s
        rw [am_uat]
        split
        · rename_i q; rw [q, z0]
        · rfl
      · rw [en]
        show I 71 s = if s < am_n V 113 14 + 1 then upd (V 129) (am_n V 113 14) (-9) s else -9
        rw [h6 s hs, am_uat]
        by_cases q : s < am_n V 113 14
        · rw [if_pos q, if_pos (by omega), if_neg (by omega)]
        · rw [if_neg q]
          by_cases q2 : s = am_n V 113 14
          · rw [if_pos (by omega), if_pos q2]
          · rw [if_neg (by omega)]
      · rw [en]
        show I 74 0 = s_n (fun r => !decide (V 130 r = 0)) (2 * (am_n V 113 14 + 1))
        rw [h8.2, show 2 * (am_n V 113 14 + 1) = 2 * am_n V 113 14 + 1 + 1 from by omega, s_n_f (by rw [r1]; decide), s_n_f (by rw [r0]; decide)]
      · rcases h9 with q | ⟨day, q1, q2, q3, q4⟩
        · exact Or.inl q
        · refine Or.inr ⟨day, q1, q2, fun x hx => ?_, fun x hx => ⟨?_, ?_⟩⟩
          · rw [en]
            exact (q3 x hx).trans (hand_grow gH gT r0).symm
          · rw [en]
            exact (q4 x hx).1.trans (trust_grow gH gW gT r0).symm
          · rw [en]
            exact (q4 x hx).2.trans (kn_grow gW gT r0).symm
  · have c8 : V 113 14 = 60 := by
      apply Decidable.byContradiction; intro e
      have hx := lt_nI hn (by decide) e
      rw [hn.1] at c4; exact c4 (nI_lt (b := 60) hx (by decide))
    rw [if_pos c, if_neg (fun q => q.elim c1 c2), if_neg (fun q => q.2 c8)] at h; (exact h _ _ (RC_no hc) (hi_up (by decide) hi_r))
  · rw [if_pos c, if_neg (fun q => q.elim c1 c2), if_neg (fun q => c3 q.1)] at h; (exact h _ _ (RC_no hc) (hi_up (by decide) hi_r))
  · (rw [if_neg c] at h; exact h _ _ (RC_no hc) (hi_up (by decide) hi_r))
theorem M_stay {ho a b : Int32} (hd : 4 ≤ d) (hm : RM I V) (hv : Inv V) (h : ∀ I' L', RM I' (o_stay V ho a b).2 → am_lo I' I → R (some (.int (o_stay V ho a b).1)) (am_mk I' L', 0, 0)) : am_meth d 158 [.ref 113, .int ho, .int a, .int b] (am_mk I L, 0, 0) R := by
  obtain ⟨d, rfl⟩ : ∃ e, d = e + 1 := ⟨d - 1, by omega⟩
  refine ar_in rfl rfl rfl (r_M_stay_0 (by omega) ?_)
  have mc := hm.1; have mf := hm.2
  rw [mf 10 rfl, mf 0 rfl, mf 14 rfl]
  unfold o_stay at h
  have hn := hv.1.2.2.2.1
  have hn2 := hn.2
  refine ⟨fun c => ⟨fun c1 => ?_, fun c1 => ⟨fun c2 => ?_, fun c2 => ⟨fun c2b => ⟨fun c3 => ⟨fun c4 => ?_, fun c4 => ?_⟩, fun c3 => ?_⟩, fun c2b => ?_⟩⟩⟩, fun c => ?_⟩
  · rw [if_pos c, if_pos (Or.inl c1)] at h; (exact h _ _ (RM_no hm) (lo_up (by decide) lo_r))
  · rw [if_pos c, if_pos (Or.inr c2)] at h; (exact h _ _ (RM_no hm) (lo_up (by decide) lo_r))
  · rw [if_pos c, if_neg (fun q => q.elim c1 c2), if_neg (fun q => q.2 c4)] at h; (exact h _ _ (RM_no hm) (lo_up (by decide) lo_r))
  · rw [if_pos c, if_neg (fun q => q.elim c1 c2), if_pos ⟨c3, c4⟩] at h
    have hx := lt_nI hn (by decide) c4
    have en : I 113 14 = nI (am_n V 113 14) := by rw [mf 14 rfl]; exact hn.1
    refine am_up (P := fun s => s_any (s_kept V ho a b) s = false → am_Run am_X0 (am_meth d) 158 R 67 [some (.ref 113), some (.int ho), some (.int a), some (.int b), some (.int (nI s))] [] (am_mk I L, 0, 0)) (n := am_n V 113 14) (fun hf => ?_) (fun s hs ih hf => ?_) rfl
    · refine r_M_stay_67 (by omega) ⟨fun c => absurd (en ▸ c) (nI_nlt (Nat.le_refl _) (by omega)), fun _ => ?_⟩
      rw [if_neg (by rw [hf]; decide)] at h
      refine ⟨_, hx, en, ?_⟩
      rintro _ rfl
      refine ⟨_, hx, en, ?_⟩
      rintro _ rfl
      refine ⟨_, hx, en, ?_⟩
      rintro _ rfl
      refine ⟨_, hx, en, ?_⟩
      rintro _ rfl
      refine ⟨_, hx, en, ?_⟩
      rintro _ rfl _ rfl
      show R (some (.int (I 113 14 + 1 - 1))) _
      rw [Int32.add_sub_cancel, mf 14 rfl]
      refine h _ _ ?_ (lo_up (by decide) (lo_up (by decide) (lo_up (by decide) (lo_up (by decide) (lo_up (by decide) (lo_up (by decide) lo_r))))))
      exact RM_f (V := va_up (va_up (va_up (va_up (va_up V 125 _) 126 _) 127 _) 128 _) 129 _) (by rw [← mf 14 rfl]; rfl) (RM_up (by decide) (by rw [← mc 129 rfl]; rfl) (RM_up (by decide) (by rw [← mc 128 rfl]; rfl) (RM_up (by decide) (by rw [← mc 127 rfl]; rfl) (RM_up (by decide) (by rw [← mc 126 rfl]; rfl) (RM_up (by decide) (by rw [mc 125 rfl]) hm)))))
    · have h60 : s < 60 := by omega
      have ih2 : ¬ s_kept V ho a b s = true → _ := fun q => ih (by
        rw [s_any, hf, Bool.false_or]; exact Bool.eq_false_iff.mpr q)
      rw [kept_iff] at ih2
      refine r_M_stay_67 (by omega) ⟨fun _ => ⟨h60, ?_⟩, fun c => absurd (by rw [en]; exact nI_lt hs (by omega)) c⟩
      rw [mc 125 rfl, mc 126 rfl, mc 127 rfl, mc 128 rfl]
      refine ⟨fun c => ⟨fun c2 => ⟨fun c3 => ⟨fun c4 => ih2 (fun q => q.2.2.2 c4), fun c4 => ?_⟩, fun c3 => ih2 (fun q => c3 q.2.2.1)⟩, fun c2 => ih2 (fun q => c2 q.2.1)⟩, fun c => ih2 (fun q => c q.1)⟩
      rw [if_pos (s_any_of hs (kept_iff.mpr ⟨c, c2, c3, c4⟩))] at h
      (exact h _ _ (RM_no hm) (lo_up (by decide) lo_r))
  · rw [if_pos c, if_neg (fun q => q.elim c1 c2), if_neg (fun q => c3 q.1)] at h; (exact h _ _ (RM_no hm) (lo_up (by decide) lo_r))
  · rw [if_pos c, if_neg (fun q => q.elim c1 c2), if_neg (fun q => c2b (by have := q.1; (simp (disch := omega) only [Int32.lt_iff_toInt_lt, Int32.le_iff_toInt_le, ← Int32.toInt_inj, Int32.reduceToInt, nI_toInt] at *; omega)))] at h; (exact h _ _ (RM_no hm) (lo_up (by decide) lo_r))
  · (rw [if_neg c] at h; exact h _ _ (RM_no hm) (lo_up (by decide) lo_r))
end OP7
