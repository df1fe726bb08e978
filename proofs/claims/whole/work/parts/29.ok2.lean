/-! contracts: reviews, places -/
def am_cg (I : am_V) (a b s : Nat) (k : Int32) : Prop := I a s ≤ k ∧ (I b s ≤ k ∨ ¬ k ≤ I 69 s + 14)
section OK2
variable {d : Nat} {R : am_R} {I V : am_V} {L : Nat → Nat → Int64}
theorem ok_Re_isCounting0 (hd : 1 ≤ d) {x k : Int32} {s : Nat} (hx : x = nI s) (hs : s < 60) (h1 : am_cg I 82 83 s k → R (some (.int 1)) (am_mk I L, 0, 0)) (h0 : ¬ am_cg I 82 83 s k → R (some (.int 0)) (am_mk I L, 0, 0)) : am_meth d 78 [.ref 74, .int 0, .int x, .int k] (am_mk I L, 0, 0) R := by
  obtain ⟨d, rfl⟩ : ∃ e, d = e + 1 := ⟨d - 1, by omega⟩
  subst hx
  refine ar_in rfl rfl rfl (r_Reviews_isCounting0_0 ⟨hs, fun c => ⟨1, by decide, rfl, fun c2 => h1 ⟨c, Or.inl c2⟩, fun c2 => ⟨fun c3 => h0 (fun q => q.2.elim c2 (fun w => w c3)), fun c3 => h1 ⟨c, Or.inr c3⟩⟩⟩, fun c => h0 (fun q => c q.1)⟩)
theorem ok_Re_isCounting1 (hd : 1 ≤ d) {x k : Int32} {s : Nat} (hx : x = nI s) (hs : s < 60) (h1 : am_cg I 83 82 s k → R (some (.int 1)) (am_mk I L, 0, 0)) (h0 : ¬ am_cg I 83 82 s k → R (some (.int 0)) (am_mk I L, 0, 0)) : am_meth d 78 [.ref 74, .int 1, .int x, .int k] (am_mk I L, 0, 0) R := by
  obtain ⟨d, rfl⟩ : ∃ e, d = e + 1 := ⟨d - 1, by omega⟩
  subst hx
  refine ar_in rfl rfl rfl (r_Reviews_isCounting1_0 ⟨hs, fun c => ⟨0, by decide, rfl, fun c2 => h1 ⟨c, Or.inl c2⟩, fun c2 => ⟨fun c3 => h0 (fun q => q.2.elim c2 (fun w => w c3)), fun c3 => h1 ⟨c, Or.inr c3⟩⟩⟩, fun c => h0 (fun q => c q.1)⟩)
theorem ct_iff {S D T : Nat → Int32} {s side : Nat} {k : Int32} : s_ct S D T s side k = true ↔ (¬ S (2 * s + side) = 0 ∧ ¬ k < D (2 * s + side)) ∧ ((0 < S (2 * s + (1 - side)) ∧ D (2 * s + (1 - side)) ≤ k) ∨ T s + 14 < k) := by unfold s_ct; exact decide_eq_true_iff
theorem le_1501 {k : Nat} (h : k ≤ 1500) : ¬ (1501 : Int32) ≤ nI k := nI_ge (b := 1501) (by omega) (by decide)
theorem st_pos {V : am_V} {r : Nat} (hv : Inv V) (hr : r < 120) : 0 < V 130 r ↔ ¬ V 130 r = 0 := by
  have h := (hv.2.2.2.2.2.1.1 r hr).1
  rw [h.1, show (0 : Int32) = nI 0 from rfl, nI_ltI (by decide) (by have := h.2; omega), nI_eq (by have := h.2; omega) (by decide)]
  omega
theorem cg_0 {s k : Nat} (hc : RC I V) (hv : Inv V) (hs : s < 60) (hk : k ≤ 1500) : am_cg I 82 83 s (nI k) ↔ s_ct (V 130) (V 131) (V 127) s 0 (nI k) = true := by
  have e := hc.2.2.2.1.1 s hs
  have e69 : I 69 = V 127 := hc.2.1.2.2.2.2.2.2.2.2.2.2.2.1
  rw [ct_iff, st_pos hv (by omega)]
  unfold am_cg
  rw [e.2.2.1, e.2.2.2, e69]
  simp only [Nat.add_zero, Nat.sub_zero]
  by_cases a : V 130 (2 * s) = 0
  · rw [if_pos a]
    exact ⟨fun q => absurd q.1 (le_1501 hk), fun q => absurd a q.1.1⟩
  · rw [if_neg a]
    by_cases b : V 130 (2 * s + 1) = 0
    · rw [if_pos b]
      exact ⟨fun q => ⟨⟨a, Int32.not_lt.mpr q.1⟩, q.2.elim (fun w => absurd w (le_1501 hk)) (fun w => Or.inr (Int32.not_le.mp w))⟩, fun q => ⟨Int32.not_lt.mp q.1.2, q.2.elim (fun w => absurd b w.1) (fun w => Or.inr (Int32.not_le.mpr w))⟩⟩
    · rw [if_neg b]
      exact ⟨fun q => ⟨⟨a, Int32.not_lt.mpr q.1⟩, q.2.elim (fun w => Or.inl ⟨b, w⟩) (fun w => Or.inr (Int32.not_le.mp w))⟩, fun q => ⟨Int32.not_lt.mp q.1.2, q.2.elim (fun w => Or.inl w.2) (fun w => Or.inr (Int32.not_le.mpr w))⟩⟩
theorem cg_1 {s k : Nat} (hc : RC I V) (hv : Inv V) (hs : s < 60) (hk : k ≤ 1500) : am_cg I 83 82 s (nI k) ↔ s_ct (V 130) (V 131) (V 127) s 1 (nI k) = true := by
  have e := hc.2.2.2.1.1 s hs
  have e69 : I 69 = V 127 := hc.2.1.2.2.2.2.2.2.2.2.2.2.2.1
  rw [ct_iff, st_pos hv (by omega)]
  unfold am_cg
  rw [e.2.2.1, e.2.2.2, e69]
  simp only [Nat.sub_self, Nat.add_zero]
  by_cases a : V 130 (2 * s + 1) = 0
  · rw [if_pos a]
    exact ⟨fun q => absurd q.1 (le_1501 hk), fun q => absurd a q.1.1⟩
  · rw [if_neg a]
    by_cases b : V 130 (2 * s) = 0
    · rw [if_pos b]
      exact ⟨fun q => ⟨⟨a, Int32.not_lt.mpr q.1⟩, q.2.elim (fun w => absurd w (le_1501 hk)) (fun w => Or.inr (Int32.not_le.mp w))⟩, fun q => ⟨Int32.not_lt.mp q.1.2, q.2.elim (fun w => absurd b w.1) (fun w => Or.inr (Int32.not_le.mpr w))⟩⟩
    · rw [if_neg b]
      exact ⟨fun q => ⟨⟨a, Int32.not_lt.mpr q.1⟩, q.2.elim (fun w => Or.inl ⟨b, w⟩) (fun w => Or.inr (Int32.not_le.mp w))⟩, fun q => ⟨Int32.not_lt.mp q.1.2, q.2.elim (fun w => Or.inl w.2) (fun w => Or.inr (Int32.not_le.mpr w))⟩⟩
theorem ok_M_counts (hd : 1 ≤ d) {x k : Int32} {r : Nat} (hx : x = nI r) (hr : r < 120) (h1 : s_ct (I 130) (I 131) (I 127) (r / 2) (r % 2) k = true → R (some (.int 1)) (am_mk I L, 0, 0)) (h0 : ¬ s_ct (I 130) (I 131) (I 127) (r / 2) (r % 2) k = true → R (some (.int 0)) (am_mk I L, 0, 0)) : am_meth d 185 [.ref 113, .int x, .int k] (am_mk I L, 0, 0) R := by
  obtain ⟨d, rfl⟩ : ∃ e, d = e + 1 := ⟨d - 1, by omega⟩
  subst hx
  rw [ct_iff] at h1 h0
  have e2 : nI r / 2 = nI (r / 2) := pk_div (d := 2) (by omega) (by decide) (by decide)
  have e3 : nI r - nI r / 2 * 2 = nI (r % 2) := pk_rem (d := 2) (by omega) (by decide) (by decide)
  have e4 : 2 * (r / 2) + r % 2 = r := by omega
  rw [e4] at h1 h0
  have hr2 : r / 2 < 60 := by omega
  refine ar_in rfl rfl rfl (r_M_counts_0 ⟨hr, fun c => h0 (fun q => q.1.1 c), fun c => ⟨fun c2 => ⟨fun c3 => ?_, fun c3 => ?_⟩, fun c2 => h0 (fun q => c2 (Int32.not_lt.mp q.1.2))⟩⟩)
  · rw [e3] at c3
    have e5 : r % 2 = 0 := by
      rcases Nat.mod_two_eq_zero_or_one r with q | q
      · exact q
      · rw [q] at c3; exact absurd c3 (by decide)
    have e6 : 2 * (r / 2) + (1 - r % 2) = r + 1 := by omega
    rw [e6] at h1 h0
    refine ⟨r + 1, by omega, nI_1 _, fun c4 => ⟨r / 2, hr2, e2, fun c5 => h0 (fun q => q.2.elim (fun w => Int32.not_le.mpr w.1 c4) (fun w => Int32.not_le.mpr w c5)), fun c5 => h1 ⟨⟨c, Int32.not_lt.mpr c2⟩, Or.inr (Int32.not_le.mp c5)⟩⟩, fun c4 => ⟨fun c5 => h1 ⟨⟨c, Int32.not_lt.mpr c2⟩, Or.inl ⟨Int32.not_le.mp c4, c5⟩⟩, fun c5 => ⟨r / 2, hr2, e2, fun c6 => h0 (fun q => q.2.elim (fun w => c5 w.2) (fun w => Int32.not_le.mpr w c6)), fun c6 => h1 ⟨⟨c, Int32.not_lt.mpr c2⟩, Or.inr (Int32.not_le.mp c6)⟩⟩⟩⟩
  · rw [e3] at c3
    have e5 : r % 2 = 1 := by
      rcases Nat.mod_two_eq_zero_or_one r with q | q
      · rw [q] at c3; exact absurd rfl c3
      · exact q
    have e6 : 2 * (r / 2) + (1 - r % 2) = r - 1 := by omega
    rw [e6] at h1 h0
    refine ⟨r - 1, by omega, by rw [show nI r = nI (r - 1 + 1) from by rw [show r - 1 + 1 = r from by omega]]; exact nI_pred _, fun c4 => ⟨r / 2, hr2, e2, fun c5 => h0 (fun q => q.2.elim (fun w => Int32.not_le.mpr w.1 c4) (fun w => Int32.not_le.mpr w c5)), fun c5 => h1 ⟨⟨c, Int32.not_lt.mpr c2⟩, Or.inr (Int32.not_le.mp c5)⟩⟩, fun c4 => ⟨fun c5 => h1 ⟨⟨c, Int32.not_lt.mpr c2⟩, Or.inl ⟨Int32.not_le.mp c4, c5⟩⟩, fun c5 => ⟨r / 2, hr2, e2, fun c6 => h0 (fun q => q.2.elim (fun w => c5 w.2) (fun w => Int32.not_le.mpr w c6)), fun c6 => h1 ⟨⟨c, Int32.not_lt.mpr c2⟩, Or.inr (Int32.not_le.mp c6)⟩⟩⟩⟩
theorem ok_Re_mayBeTold0 (hd : 2 ≤ d) {x : Int32} {s : Nat} (hx : x = nI s) (hs : s < 60) (h1 : (((I 69 s < I 66 0 ∧ I 66 0 ≤ I 69 s + 30) ∧ I 70 s = 1) ∧ I 82 s = 1501) → R (some (.int 1)) (am_mk I L, 0, 0)) (h0 : ¬ (((I 69 s < I 66 0 ∧ I 66 0 ≤ I 69 s + 30) ∧ I 70 s = 1) ∧ I 82 s = 1501) → R (some (.int 0)) (am_mk I L, 0, 0)) : am_meth d 80 [.ref 74, .int 0, .int x] (am_mk I L, 0, 0) R := by
  obtain ⟨d, rfl⟩ : ∃ e, d = e + 1 := ⟨d - 1, by omega⟩
  subst hx
  exact ar_in rfl rfl rfl (r_Reviews_mayBeTold0_0 (by omega) ⟨hs, fun c => ⟨hs, fun c2 => ⟨fun c3 => ⟨fun c4 => h1 ⟨⟨⟨c, c2⟩, c3⟩, c4⟩, fun c4 => h0 (fun q => c4 q.2)⟩, fun c3 => h0 (fun q => c3 q.1.2)⟩, fun c2 => ⟨fun c3 => h0 (fun q => c2 q.1.1.2), fun c3 => h0 (fun q => c3 q.1.2)⟩⟩, fun c => ⟨hs, fun c3 => h0 (fun q => c q.1.1.1), fun c3 => h0 (fun q => c q.1.1.1)⟩⟩)
theorem ok_Re_mayBeTold1 (hd : 2 ≤ d) {x : Int32} {s : Nat} (hx : x = nI s) (hs : s < 60) (h1 : (((I 69 s < I 66 0 ∧ I 66 0 ≤ I 69 s + 30) ∧ I 70 s = 1) ∧ I 83 s = 1501) → R (some (.int 1)) (am_mk I L, 0, 0)) (h0 : ¬ (((I 69 s < I 66 0 ∧ I 66 0 ≤ I 69 s + 30) ∧ I 70 s = 1) ∧ I 83 s = 1501) → R (some (.int 0)) (am_mk I L, 0, 0)) : am_meth d 80 [.ref 74, .int 1, .int x] (am_mk I L, 0, 0) R := by
  obtain ⟨d, rfl⟩ : ∃ e, d = e + 1 := ⟨d - 1, by omega⟩
  subst hx
  exact ar_in rfl rfl rfl (r_Reviews_mayBeTold1_0 (by omega) ⟨hs, fun c => ⟨hs, fun c2 => ⟨fun c3 => ⟨fun c4 => h1 ⟨⟨⟨c, c2⟩, c3⟩, c4⟩, fun c4 => h0 (fun q => c4 q.2)⟩, fun c3 => h0 (fun q => c3 q.1.2)⟩, fun c2 => ⟨fun c3 => h0 (fun q => c2 q.1.1.2), fun c3 => h0 (fun q => c3 q.1.2)⟩⟩, fun c => ⟨hs, fun c3 => h0 (fun q => c q.1.1.1), fun c3 => h0 (fun q => c q.1.1.1)⟩⟩)
def am_ra (I : am_V) (a b s : Nat) (x : Int32) : am_V := va_up (va_up (va_up (va_up I a (upd (I a) s x)) b (upd (I b) s (I 66 0))) 74 (upd (I 74) 0 (I 74 0 + 1))) 74 (upd (upd (I 74) 0 (I 74 0 + 1)) 8 1501)
theorem ok_Re_add0 (hd : 1 ≤ d) {x y : Int32} {s : Nat} (hx : x = nI s) (hs : s < 60) (h : R none (am_mk (am_ra I 79 82 s y) L, 0, 0)) : am_meth d 81 [.ref 74, .int 0, .int x, .int y] (am_mk I L, 0, 0) R := by
  obtain ⟨d, rfl⟩ : ∃ e, d = e + 1 := ⟨d - 1, by omega⟩
  subst hx
  refine ar_in rfl rfl rfl (r_Reviews_add0_0 ⟨hs, ?_⟩)
  rintro _ rfl _ rfl _ rfl _ rfl
  exact h
theorem ok_Re_add1 (hd : 1 ≤ d) {x y : Int32} {s : Nat} (hx : x = nI s) (hs : s < 60) (h : R none (am_mk (am_ra I 80 83 s y) L, 0, 0)) : am_meth d 81 [.ref 74, .int 1, .int x, .int y] (am_mk I L, 0, 0) R := by
  obtain ⟨d, rfl⟩ : ∃ e, d = e + 1 := ⟨d - 1, by omega⟩
  subst hx
  refine ar_in rfl rfl rfl (r_Reviews_add1_0 ⟨hs, ?_⟩)
  rintro _ rfl _ rfl _ rfl _ rfl
  exact h
theorem ok_Re_doubtOf (hd : 1 ≤ d) {x : Int32} {k : Nat} (hx : x = nI k) (hk : k < 20) (hz : ¬ I 77 k + 1 = 0) (h : R (some (.int (400 / (I 77 k + 1)))) (am_mk I L, 0, 0)) : am_meth d 82 [.ref 74, .int x] (am_mk I L, 0, 0) R := by
  obtain ⟨d, rfl⟩ : ∃ e, d = e + 1 := ⟨d - 1, by omega⟩
  subst hx
  exact ar_in rfl rfl rfl (r_Reviews_doubtOf_0 ⟨hk, hz, h⟩)
theorem ok_Ru_townOf (hd : 1 ≤ d) {x : Int32} {s : Nat} (hx : x = nI s) (hs : s < 60) (hp : am_ix I 67 s 20) (h : R (some (.int (I 43 (am_n I 67 s)))) (am_mk I L, 0, 0)) : am_meth d 102 [.ref 99, .int x] (am_mk I L, 0, 0) R := by
  obtain ⟨d, rfl⟩ : ∃ e, d = e + 1 := ⟨d - 1, by omega⟩
  subst hx
  exact ar_in rfl rfl rfl (r_Rules_townOf_0 ⟨hs, _, hp.2, hp.1, h⟩)
theorem ok_Ru_landOf (hd : 1 ≤ d) {x : Int32} {s : Nat} (hx : x = nI s) (hs : s < 60) (hp : am_ix I 67 s 20) (hp2 : am_ix I 43 (am_n I 67 s) 10) (h : R (some (.int (I 3 (am_n I 43 (am_n I 67 s))))) (am_mk I L, 0, 0)) : am_meth d 105 [.ref 99, .int x] (am_mk I L, 0, 0) R := by
  obtain ⟨d, rfl⟩ : ∃ e, d = e + 1 := ⟨d - 1, by omega⟩
  subst hx
  exact ar_in rfl rfl rfl (r_Rules_landOf_0 ⟨hs, _, hp.2, hp.1, _, hp2.2, hp2.1, h⟩)
theorem ok_Ru_hasBegun (hd : 1 ≤ d) {x : Int32} {s : Nat} (hx : x = nI s) (hs : s < 60) (h1 : I 68 s ≤ I 66 0 → R (some (.int 1)) (am_mk I L, 0, 0)) (h0 : ¬ I 68 s ≤ I 66 0 → R (some (.int 0)) (am_mk I L, 0, 0)) : am_meth d 96 [.ref 99, .int x] (am_mk I L, 0, 0) R := by
  obtain ⟨d, rfl⟩ : ∃ e, d = e + 1 := ⟨d - 1, by omega⟩
  subst hx
  exact ar_in rfl rfl rfl (r_Rules_hasBegun_0 ⟨hs, h1, h0⟩)
theorem ok_Ru_hasStrangeBeasts (hd : 1 ≤ d) {x y : Int32} {k s : Nat} (hy : y = nI k) (hx : x = nI s) (hk : k < 20) (hs : s < 60) (hp : am_ix I 67 s 20) (h1 : ¬ I 44 (am_n I 67 s) &&& (I 18 k ^^^ -1) = 0 → R (some (.int 1)) (am_mk I L, 0, 0)) (h0 : ¬ ¬ I 44 (am_n I 67 s) &&& (I 18 k ^^^ -1) = 0 → R (some (.int 0)) (am_mk I L, 0, 0)) : am_meth d 97 [.ref 99, .int y, .int x] (am_mk I L, 0, 0) R := by
  obtain ⟨d, rfl⟩ : ∃ e, d = e + 1 := ⟨d - 1, by omega⟩
  subst hx; subst hy
  exact ar_in rfl rfl rfl (r_Rules_hasStrangeBeasts_0 ⟨hs, _, hp.2, hp.1, hk, fun c => h0 (fun q => q c), h1⟩)
theorem ok_Ru_addToMine (hd : 1 ≤ d) {x : Int32} (hp : am_ix I 99 8 120) (h : R none (am_mk (va_up (va_up I 99 (upd (I 99) 8 (I 99 8 + 1))) 101 (upd (I 101) (am_n I 99 8) x)) L, 0, 0)) : am_meth d 94 [.ref 99, .int x] (am_mk I L, 0, 0) R := by
  obtain ⟨d, rfl⟩ : ∃ e, d = e + 1 := ⟨d - 1, by omega⟩
  refine ar_in rfl rfl rfl (r_Rules_addToMine_0 ⟨fun c => ?_, fun c => ?_⟩)
  · rintro _ rfl
    refine ⟨_, hp.2, hp.1, ?_⟩
    rintro _ rfl
    exact h
  · rw [hp.1] at c; exact absurd (nI_lt (a := am_n I 99 8) (b := 120) hp.2 (by decide)) c
theorem ok_Ru_dropLast (hd : 1 ≤ d) {m : Nat} (hp : I 99 8 = nI (m + 1)) (hm : m < 120) (h : R none (am_mk (va_up I 99 (upd (I 99) 8 (nI m))) L, 0, 0)) : am_meth d 112 [.ref 99] (am_mk I L, 0, 0) R := by
  obtain ⟨d, rfl⟩ : ∃ e, d = e + 1 := ⟨d - 1, by omega⟩
  refine ar_in rfl rfl rfl (r_Rules_dropLastOfMine_0 ⟨fun c => ?_, fun c => ?_⟩)
  · rw [hp] at c; exact absurd c (nI_nle (by omega) (by omega))
  · rintro _ rfl
    rw [hp, nI_pred]
    exact h
end OK2
