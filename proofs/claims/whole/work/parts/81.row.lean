/-! rows of stays: are they stays, open, each once -/
def s_rl (V : am_V) : Nat := am_n V 113 39
def s_rw (V : am_V) (i : Nat) : Nat := am_n V 146 i
def s_alo (V : am_V) : Bool := !(s_any (fun i => !decide (0 ≤ V 146 i ∧ V 146 i < V 113 14)) (s_rl V))
def s_opn (V : am_V) : Bool := !(s_any (fun i => !decide (V 128 (s_rw V i) = 0) || s_any (fun j => decide (V 146 j = V 146 i)) i) (s_rl V))
def s_bar (V : am_V) : Int32 := if s_alo V = true then (if s_opn V = true then (if V 113 39 ≤ 6 then 0 else -6) else -3) else -1
def w_fst (f : Nat → Int32) (x : Int32) (n v : Nat) : Prop := (∀ j, j < v → ¬ f j = x) ∧ v ≤ n ∧ (v < n → f v = x)
section RW
variable {d : Nat} {I V : am_V} {L : Nat → Nat → Int64} {R : am_R}
theorem any_ff {P : Nat → Bool} {n i : Nat} (h : s_any P n = false) (hi : i < n) : P i = false := by
  rcases q : P i with _ | _
  · rfl
  · rw [s_any_of hi q] at h; exact Bool.noConfusion h
theorem any_n {P : Nat → Bool} {n : Nat} (h : ∀ i, i < n → P i = false) : s_any P n = false := Bool.eq_false_iff.mpr (any_f h)
theorem rl_12 (hv : Inv V) : V 113 39 = nI (s_rl V) ∧ s_rl V ≤ 12 := by
  have := hv.1.2.2.2.2.2.2.1
  have h2 := this.2
  exact ⟨this.1, by unfold s_rl; omega⟩
theorem row_s (hv : Inv V) (ha : s_alo V = true) {i : Nat} (hi : i < s_rl V) : V 146 i = nI (s_rw V i) ∧ s_rw V i < am_n V 113 14 ∧ s_rw V i < 60 := by
  unfold s_alo at ha
  rw [Bool.not_eq_true'] at ha
  have h1 := any_ff ha hi
  have h2 : 0 ≤ V 146 i ∧ V 146 i < V 113 14 := by
    have h3 : decide (0 ≤ V 146 i ∧ V 146 i < V 113 14) = true := by revert h1; cases decide (0 ≤ V 146 i ∧ V 146 i < V 113 14) <;> simp
    exact of_decide_eq_true h3
  obtain ⟨j, j1, e, j2⟩ := ix_s hv h2
  have : s_rw V i = j := am_n_e e (by omega)
  rw [this]; exact ⟨e, j2, j1⟩
theorem row_o (hv : Inv V) (ha : s_alo V = true) (ho : s_opn V = true) {i : Nat} (hi : i < s_rl V) : V 128 (s_rw V i) = 0 ∧ ∀ j, j < s_rl V → s_rw V j = s_rw V i → j = i := by
  have key : ∀ i, i < s_rl V → V 128 (s_rw V i) = 0 ∧ ∀ j, j < i → ¬ V 146 j = V 146 i := by
    intro i hi
    unfold s_opn at ho
    rw [Bool.not_eq_true'] at ho
    have h1 := any_ff ho hi
    rw [Bool.or_eq_false_iff] at h1
    refine ⟨?_, fun j hj q => ?_⟩
    · have := h1.1
      by_cases e : V 128 (s_rw V i) = 0
      · exact e
      · rw [decide_eq_false e] at this; exact Bool.noConfusion this
    · have := any_ff h1.2 hj
      rw [decide_eq_true q] at this; exact Bool.noConfusion this
  refine ⟨(key i hi).1, fun j hj e => ?_⟩
  have a := (row_s hv ha hi).1
  have b := (row_s hv ha hj).1
  rcases Nat.lt_trichotomy i j with q | q | q
  · exact absurd (by rw [a, b, e]) ((key j hj).2 i q)
  · exact q.symm
  · exact absurd (by rw [a, b, e]) ((key i hi).2 j q)
theorem ok_first_row {x : Int32} {n : Nat} (hd : 1 ≤ d) (hn : I 95 0 = nI n) (h12 : n ≤ 12) (h : ∀ v, w_fst (I 96) x n v → R (some (.int (nI v))) (am_mk I L, 0, 0)) : am_meth d 90 [.ref 95, .int x] (am_mk I L, 0, 0) R := by
  obtain ⟨d, rfl⟩ : ∃ e, d = e + 1 := ⟨d - 1, by omega⟩
  refine ar_in rfl rfl rfl (r_Row_firstPlaceOf_row_0 ?_)
  refine am_up (P := fun j => (∀ i, i < j → ¬ I 96 i = x) → am_Run am_X0 (am_meth d) 90 R 2 [some (.ref 95), some (.int x), some (.int (nI j))] [] (am_mk I L, 0, 0)) (n := n) (fun hf => ?_) (fun j hj ih hf => ?_) (fun i hi => absurd hi (Nat.not_lt_zero i))
  · refine r_Row_firstPlaceOf_row_2 ⟨fun c => absurd (hn ▸ c) (nI_nlt (Nat.le_refl _) (by omega)), fun _ => ?_⟩
    rw [hn]; exact h n ⟨hf, Nat.le_refl _, fun q => absurd q (Nat.lt_irrefl _)⟩
  · refine r_Row_firstPlaceOf_row_2 ⟨fun _ => ⟨by omega, fun c => h j ⟨hf, by omega, fun _ => c⟩, fun c => ih (fun i hi => ?_)⟩, fun c => absurd (by rw [hn]; exact nI_lt hj (by omega)) c⟩
    by_cases e : i = j
    · subst e; exact c
    · exact hf i (by omega)
theorem ok_first_told {x : Int32} {n : Nat} (hd : 1 ≤ d) (hn : I 97 0 = nI n) (h12 : n ≤ 6) (h : ∀ v, w_fst (I 98) x n v → R (some (.int (nI v))) (am_mk I L, 0, 0)) : am_meth d 90 [.ref 97, .int x] (am_mk I L, 0, 0) R := by
  obtain ⟨d, rfl⟩ : ∃ e, d = e + 1 := ⟨d - 1, by omega⟩
  refine ar_in rfl rfl rfl (r_Row_firstPlaceOf_told_0 ?_)
  refine am_up (P := fun j => (∀ i, i < j → ¬ I 98 i = x) → am_Run am_X0 (am_meth d) 90 R 2 [some (.ref 97), some (.int x), some (.int (nI j))] [] (am_mk I L, 0, 0)) (n := n) (fun hf => ?_) (fun j hj ih hf => ?_) (fun i hi => absurd hi (Nat.not_lt_zero i))
  · refine r_Row_firstPlaceOf_told_2 ⟨fun c => absurd (hn ▸ c) (nI_nlt (Nat.le_refl _) (by omega)), fun _ => ?_⟩
    rw [hn]; exact h n ⟨hf, Nat.le_refl _, fun q => absurd q (Nat.lt_irrefl _)⟩
  · refine r_Row_firstPlaceOf_told_2 ⟨fun _ => ⟨by omega, fun c => h j ⟨hf, by omega, fun _ => c⟩, fun c => ih (fun i hi => ?_)⟩, fun c => absurd (by rw [hn]; exact nI_lt hj (by omega)) c⟩
    by_cases e : i = j
    · subst e; exact c
    · exact hf i (by omega)
theorem alo_up {j : Nat} {Q : Prop} (hf : s_any (fun i => !decide (0 ≤ V 146 i ∧ V 146 i < V 113 14)) j = false) (c : 0 ≤ V 146 j ∧ V 146 j < V 113 14) (ih : s_any (fun i => !decide (0 ≤ V 146 i ∧ V 146 i < V 113 14)) (j + 1) = false → Q) : Q := ih (by rw [s_any, hf, decide_eq_true c]; rfl)
theorem ok_H_alone (hd : 2 ≤ d) (hc : RC I V) (hv : Inv V) (h1 : s_alo V = true → R (some (.int 1)) (am_mk I L, 0, 0)) (h0 : s_alo V = false → R (some (.int 0)) (am_mk I L, 0, 0)) : am_meth d 28 [.ref 0] (am_mk I L, 0, 0) R := by
  obtain ⟨d, rfl⟩ : ∃ e, d = e + 1 := ⟨d - 1, by omega⟩
  refine ar_in rfl rfl rfl (r_H_rowHasStaysAlone_0 ?_)
  obtain ⟨⟨n1, n2, n3, n4, n5, n6, n7, n8⟩, ⟨e1, e2, e3, e4, e5, e6, e7, e8, e9, e10, e11, e12, e13, e14, e15, e16, e17⟩, -⟩ := id hc
  have hr := rl_12 hv
  have en : I 95 0 = nI (s_rl V) := n7.trans hr.1
  unfold s_alo at h1 h0
  refine am_up (P := fun j => s_any (fun i => !decide (0 ≤ V 146 i ∧ V 146 i < V 113 14)) j = false → am_Run am_X0 (am_meth d) 28 R 2 [some (.ref 0), some (.int (nI j))] [] (am_mk I L, 0, 0)) (n := s_rl V) (fun hf => ?_) (fun j hj ih hf => ?_) rfl
  · exact r_H_rowHasStaysAlone_2 (by omega) ⟨fun c => absurd (en ▸ c) (nI_nlt (Nat.le_refl _) (by omega)), fun _ => h1 (by rw [hf]; rfl)⟩
  · have lt : nI j < I 95 0 := by rw [en]; exact nI_lt hj (by omega)
    refine r_H_rowHasStaysAlone_2 (by omega) ⟨fun _ => ⟨by omega, lt, ?_⟩, fun c => absurd lt c⟩
    rw [e16, n4]
    exact ⟨fun c => alo_up hf c ih, fun c => h0 (by rw [s_any_of hj (by rw [decide_eq_false c]; rfl)]; rfl)⟩
theorem ok_M_all (hd : 2 ≤ d) (hm : RM I V) (hv : Inv V) (h1 : s_alo V = true → R (some (.int 1)) (am_mk I L, 0, 0)) (h0 : s_alo V = false → R (some (.int 0)) (am_mk I L, 0, 0)) : am_meth d 208 [.ref 113] (am_mk I L, 0, 0) R := by
  obtain ⟨d, rfl⟩ : ∃ e, d = e + 1 := ⟨d - 1, by omega⟩
  refine ar_in rfl rfl rfl (r_M_isAllStays_0 ?_)
  have mc := hm.1; have mf := hm.2
  have hr := rl_12 hv
  have en : I 113 39 = nI (s_rl V) := (mf 39 rfl).trans hr.1
  unfold s_alo at h1 h0
  refine am_up (P := fun j => s_any (fun i => !decide (0 ≤ V 146 i ∧ V 146 i < V 113 14)) j = false → am_Run am_X0 (am_meth d) 208 R 2 [some (.ref 113), some (.int (nI j))] [] (am_mk I L, 0, 0)) (n := s_rl V) (fun hf => ?_) (fun j hj ih hf => ?_) rfl
  · exact r_M_isAllStays_2 (by omega) ⟨fun c => absurd (en ▸ c) (nI_nlt (Nat.le_refl _) (by omega)), fun _ => h1 (by rw [hf]; rfl)⟩
  · have lt : nI j < I 113 39 := by rw [en]; exact nI_lt hj (by omega)
    refine r_M_isAllStays_2 (by omega) ⟨fun _ => ⟨by omega, ?_⟩, fun c => absurd lt c⟩
    rw [mc 146 rfl, mf 14 rfl]
    exact ⟨fun c => alo_up hf c ih, fun c => h0 (by rw [s_any_of hj (by rw [decide_eq_false c]; rfl)]; rfl)⟩
theorem ok_H_open (hd : 2 ≤ d) (hc : RC I V) (hv : Inv V) (ha : s_alo V = true) (h1 : s_opn V = true → R (some (.int 1)) (am_mk I L, 0, 0)) (h0 : s_opn V = false → R (some (.int 0)) (am_mk I L, 0, 0)) : am_meth d 29 [.ref 0] (am_mk I L, 0, 0) R := by
  obtain ⟨d, rfl⟩ : ∃ e, d = e + 1 := ⟨d - 1, by omega⟩
  refine ar_in rfl rfl rfl (r_H_rowIsOpenAndSingle_0 ?_)
  obtain ⟨⟨n1, n2, n3, n4, n5, n6, n7, n8⟩, ⟨e1, e2, e3, e4, e5, e6, e7, e8, e9, e10, e11, e12, e13, e14, e15, e16, e17⟩, -⟩ := id hc
  have hr := rl_12 hv
  have en : I 95 0 = nI (s_rl V) := n7.trans hr.1
  unfold s_opn at h1 h0
  refine am_up (P := fun j => s_any (fun i => !decide (V 128 (s_rw V i) = 0) || s_any (fun j => decide (V 146 j = V 146 i)) i) j = false → am_Run am_X0 (am_meth d) 29 R 2 [some (.ref 0), some (.int (nI j)), none] [] (am_mk I L, 0, 0)) (n := s_rl V) (fun hf => ?_) (fun j hj ih hf => ?_) rfl
  · exact r_H_rowIsOpenAndSingle_2 (by omega) ⟨fun c => absurd (en ▸ c) (nI_nlt (Nat.le_refl _) (by omega)), fun _ => h1 (by rw [hf]; rfl)⟩
  · have lt : nI j < I 95 0 := by rw [en]; exact nI_lt hj (by omega)
    have rs := row_s hv ha hj
    refine r_H_rowIsOpenAndSingle_2 (by omega) ⟨fun _ => ⟨by omega, lt, s_rw V j, rs.2.2, by rw [e16]; exact rs.1, ?_⟩, fun c => absurd lt c⟩
    rw [e13]
    refine ⟨fun c => ?_, fun c => h0 (by rw [s_any_of hj (by rw [decide_eq_false c]; rfl)]; rfl)⟩
    refine ok_first_row (by omega) en hr.2 (fun v hf2 => ⟨_, _, _, rfl, rfl, ?_⟩)
    rw [e16] at hf2
    dsimp only
    rw [nI_ltI (by have := hf2.2.1; omega) (by omega)]
    refine ⟨fun c2 => h0 ?_, fun c2 => ih ?_⟩
    · have e := hf2.2.2 (by omega)
      rw [s_any_of hj (by rw [s_any_of (P := fun j' => decide (V 146 j' = V 146 j)) c2 (decide_eq_true e), Bool.or_true])]; rfl
    · rw [s_any, hf, decide_eq_true c, any_n (fun i hi => decide_eq_false (hf2.1 i (by omega)))]; rfl
theorem ok_M_open1 (hd : 1 ≤ d) (hm : RM I V) (hv : Inv V) (ha : s_alo V = true) (h1 : s_opn V = true → R (some (.int 1)) (am_mk I L, 0, 0)) (h0 : s_opn V = false → R (some (.int 0)) (am_mk I L, 0, 0)) : am_meth d 209 [.ref 113] (am_mk I L, 0, 0) R := by
  obtain ⟨d, rfl⟩ : ∃ e, d = e + 1 := ⟨d - 1, by omega⟩
  refine ar_in rfl rfl rfl (r_M_isOpenOnce_0 ?_)
  have mc := hm.1; have mf := hm.2
  have hr := rl_12 hv
  have en : I 113 39 = nI (s_rl V) := (mf 39 rfl).trans hr.1
  unfold s_opn at h1 h0
  refine am_up (P := fun j => s_any (fun i => !decide (V 128 (s_rw V i) = 0) || s_any (fun j => decide (V 146 j = V 146 i)) i) j = false → am_Run am_X0 (am_meth d) 209 R 2 [some (.ref 113), some (.int (nI j)), none] [] (am_mk I L, 0, 0)) (n := s_rl V) (fun hf => ?_) (fun j hj ih hf => ?_) rfl
  · exact r_M_isOpenOnce_2 ⟨fun c => absurd (en ▸ c) (nI_nlt (Nat.le_refl _) (by omega)), fun _ => h1 (by rw [hf]; rfl)⟩
  · have lt : nI j < I 113 39 := by rw [en]; exact nI_lt hj (by omega)
    have rs := row_s hv ha hj
    refine r_M_isOpenOnce_2 ⟨fun _ => ⟨by omega, s_rw V j, rs.2.2, by rw [mc 146 rfl]; exact rs.1, ?_⟩, fun c => absurd lt c⟩
    rw [mc 128 rfl]
    refine ⟨fun c => ?_, fun c => h0 (by rw [s_any_of hj (by rw [decide_eq_false c]; rfl)]; rfl)⟩
    refine am_up (P := fun m => s_any (fun j' => decide (V 146 j' = V 146 j)) m = false → am_Run am_X0 (am_meth d) 209 R 28 [some (.ref 113), some (.int (nI j)), some (.int (nI m))] [] (am_mk I L, 0, 0)) (n := j) (fun hf2 => ?_) (fun m hm2 ih2 hf2 => ?_) rfl
    · refine r_M_isOpenOnce_28 ⟨fun q => absurd q (nI_nlt (Nat.le_refl _) (by omega)), fun _ => ih ?_⟩
      rw [s_any, hf, decide_eq_true c, hf2]; rfl
    · refine r_M_isOpenOnce_28 ⟨fun _ => ⟨by omega, by omega, ?_⟩, fun q => absurd (nI_lt hm2 (by omega)) q⟩
      rw [mc 146 rfl]
      refine ⟨fun q => h0 ?_, fun q => ih2 ?_⟩
      · rw [s_any_of hj (by rw [s_any_of (P := fun j' => decide (V 146 j' = V 146 j)) hm2 (decide_eq_true q), Bool.or_true])]; rfl
      · rw [s_any, hf2, decide_eq_false q]; rfl
theorem ok_H_bar (hd : 3 ≤ d) (hc : RC I V) (hv : Inv V) (h : R (some (.int (s_bar V))) (am_mk I L, 0, 0)) : am_meth d 32 [.ref 0] (am_mk I L, 0, 0) R := by
  obtain ⟨d, rfl⟩ : ∃ e, d = e + 1 := ⟨d - 1, by omega⟩
  have n7 : I 95 0 = V 113 39 := hc.1.2.2.2.2.2.2.1
  unfold s_bar at h
  refine ar_in rfl rfl rfl (r_H_rowRefusal_0 ?_)
  refine ok_H_alone (by omega) hc hv (fun a => ⟨_, _, _, rfl, rfl, fun z => absurd z (by decide), fun _ => ?_⟩) (fun a => ⟨_, _, _, rfl, rfl, fun _ => ?_, fun z => absurd rfl z⟩)
  · rw [if_pos a] at h
    refine ok_H_open (by omega) hc hv a (fun b => ⟨_, _, _, rfl, rfl, fun z => absurd z (by decide), fun _ => ?_⟩) (fun b => ⟨_, _, _, rfl, rfl, fun _ => ?_, fun z => absurd rfl z⟩)
    · rw [if_pos b] at h
      rw [n7]
      refine ⟨fun c => ?_, fun c => ?_⟩
      · rw [if_pos c] at h; exact h
      · rw [if_neg c] at h; exact h
    · rw [if_neg (by rw [b]; decide)] at h; exact h
  · rw [if_neg (by rw [a]; decide)] at h; exact h
theorem ok_M_bars (hd : 3 ≤ d) (hm : RM I V) (hv : Inv V) (h : R (some (.int (s_bar V))) (am_mk I L, 0, 0)) : am_meth d 215 [.ref 113] (am_mk I L, 0, 0) R := by
  obtain ⟨d, rfl⟩ : ∃ e, d = e + 1 := ⟨d - 1, by omega⟩
  have n7 : I 113 39 = V 113 39 := hm.2 39 rfl
  unfold s_bar at h
  refine ar_in rfl rfl rfl (r_M_bars_0 ?_)
  refine ok_M_all (by omega) hm hv (fun a => ⟨_, _, _, rfl, rfl, fun z => absurd z (by decide), fun _ => ?_⟩) (fun a => ⟨_, _, _, rfl, rfl, fun _ => ?_, fun z => absurd rfl z⟩)
  · rw [if_pos a] at h
    refine ok_M_open1 (by omega) hm hv a (fun b => ⟨_, _, _, rfl, rfl, fun z => absurd z (by decide), fun _ => ?_⟩) (fun b => ⟨_, _, _, rfl, rfl, fun _ => ?_, fun z => absurd rfl z⟩)
    · rw [if_pos b] at h
      rw [n7]
      refine ⟨fun c => ?_, fun c => ?_⟩
      · rw [if_pos c] at h; exact h
      · rw [if_neg c] at h; exact h
    · rw [if_neg (by rw [b]; decide)] at h; exact h
  · rw [if_neg (by rw [a]; decide)] at h; exact h
end RW
