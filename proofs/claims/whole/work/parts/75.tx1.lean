/-! reading a text: leaves -/
def w_nx (I : am_V) : Int32 := if 0 ≤ I 93 3 ∧ I 93 3 < I 91 0 then I 92 (am_n I 93 3) else -1
def w_fl (I : am_V) : am_V := if I 93 4 = -1 then va_up I 93 (upd (I 93) 4 (I 93 3)) else I
def w_as (I : am_V) (x : Int32) : am_V := if I 93 0 < 60 then va_up (va_up I 93 (upd (I 93) 0 (I 93 0 + 1))) 94 (upd (I 94) (am_n I 93 0) x) else I
section TX1
variable {d : Nat} {I V : am_V} {L : Nat → Nat → Int64} {R : am_R}
theorem ok_Str_coder (hd : 1 ≤ d) (h : R (some (.int 0)) (am_mk I L, 0, 0)) : am_meth d 251 [.float 2] (am_mk I L, 0, 0) R := by
  obtain ⟨d, rfl⟩ : ∃ e, d = e + 1 := ⟨d - 1, by omega⟩
  exact ar_in rfl rfl rfl (r_Str_coder_0 h)
theorem ok_Str_isLatin1 (hd : 1 ≤ d) (h : R (some (.int 1)) (am_mk I L, 0, 0)) : am_meth d 254 [.float 2] (am_mk I L, 0, 0) R := by
  obtain ⟨d, rfl⟩ : ∃ e, d = e + 1 := ⟨d - 1, by omega⟩
  exact ar_in rfl rfl rfl (r_Str_isLatin1_0 h)
theorem ok_Lat_canEncode {x : Int32} (hd : 1 ≤ d) (h1 : (0 ≤ x ∧ x ≤ 255) → R (some (.int 1)) (am_mk I L, 0, 0)) (h0 : ¬ (0 ≤ x ∧ x ≤ 255) → R (some (.int 0)) (am_mk I L, 0, 0)) : am_meth d 256 [.int x] (am_mk I L, 0, 0) R := by
  obtain ⟨d, rfl⟩ : ∃ e, d = e + 1 := ⟨d - 1, by omega⟩
  exact ar_in rfl rfl rfl (r_Lat_canEncode_0 ⟨fun c => h0 (fun q => Int32.not_lt.mpr q.1 c), fun c => ⟨fun c2 => h1 ⟨Int32.not_lt.mp c, c2⟩, fun c2 => h0 (fun q => c2 q.2)⟩⟩)
theorem tx_b {y j : Nat} (hy : y < 256) (hj : j < 10) : am_tx j = (nI y).toInt8.toInt32 ↔ am_tx j = nI y := by
  have : ∀ y, y < 256 → ∀ j, j < 10 → (am_tx j = (nI y).toInt8.toInt32 ↔ am_tx j = nI y) := by decide +kernel
  exact this y hy j hj
theorem ok_indexOfChar {y : Nat} (hd : 1 ≤ d) (hy : y < 256) (h : R (some (.int (am_on (-1) (p_let (nI y))))) (am_mk I L, 0, 0)) : am_meth d 257 [.float 3, .int (nI y), .int 0, .int 10] (am_mk I L, 0, 0) R := by
  obtain ⟨d, rfl⟩ : ∃ e, d = e + 1 := ⟨d - 1, by omega⟩
  refine ar_in rfl rfl rfl (r_Lat_indexOfChar_0 (a := 0) ?_)
  refine am_up (P := fun j => (∀ i, i < j → ¬ nI y = am_tx i) → am_Run am_X0 (am_meth d) 257 R 7 [some (.float 3), none, none, some (.int 10), some (.int (nI y).toInt8.toInt32), some (.int (nI j))] [] (am_mk I L, 0, 0)) (n := 10) (fun hf => ?_) (fun j hj ih hf => ?_) (fun i hi => absurd hi (Nat.not_lt_zero i))
  · refine r_Lat_indexOfChar_7 ⟨fun c => absurd c (by decide), fun _ => ?_⟩
    have e : p_let (nI y) = none := by
      cases e : p_let (nI y) with
      | none => rfl
      | some j =>
        obtain ⟨a, b⟩ := let_some e
        exact absurd b.symm (hf j a)
    rw [e] at h; exact h
  · refine r_Lat_indexOfChar_7 ⟨fun _ => ⟨hj, ?_⟩, fun c => absurd (nI_lt (b := 10) hj (by decide)) c⟩
    rw [tx_b hy hj]
    refine ⟨fun c => ?_, fun c => ih (fun i hi => ?_)⟩
    · rw [let_of hj c.symm] at h; exact h
    · by_cases e : i = j
      · subst e; exact fun q => c q.symm
      · exact hf i (by omega)
theorem ok_Ro_at_tape2 {i n : Nat} (hd : 1 ≤ d) (hn : I 91 0 = nI n) (h60 : n ≤ 60) {x : Int32} (h : R (some (.int (if 0 ≤ x ∧ x < I 91 0 then I 92 x.toNatClampNeg else -1))) (am_mk I L, 0, 0)) : am_meth d 88 [.ref 91, .int x] (am_mk I L, 0, 0) R := by
  obtain ⟨d, rfl⟩ : ∃ e, d = e + 1 := ⟨d - 1, by omega⟩
  refine ar_in rfl rfl rfl (r_Row_at_tape_0 ⟨fun c => ?_, fun c => ⟨fun c2 => ?_, fun c2 => ?_⟩⟩)
  · rw [if_neg (fun q => Int32.not_lt.mpr q.1 c)] at h; exact h
  · rw [if_pos ⟨Int32.not_lt.mp c, c2⟩] at h
    rw [hn] at c2
    obtain ⟨j, hj, rfl⟩ := am_nat (x := x) ⟨Int32.not_lt.mp c, c2⟩ (by omega)
    rw [nI_clamp (by omega)] at h
    exact ⟨j, by omega, rfl, h⟩
  · rw [if_neg (fun q => c2 q.2)] at h; exact h
theorem ok_Tx_next (hd : 2 ≤ d) (hp : am_ix I 91 0 61) (h : R (some (.int (w_nx I))) (am_mk I L, 0, 0)) : am_meth d 138 [.ref 93] (am_mk I L, 0, 0) R := by
  obtain ⟨d, rfl⟩ : ∃ e, d = e + 1 := ⟨d - 1, by omega⟩
  have hp2 := hp.2
  exact ar_in rfl rfl rfl (r_Text_next_0 (ok_Ro_at_tape2 (i := 0) (by omega) hp.1 (by omega) ⟨_, _, _, rfl, rfl, h⟩))
theorem ok_Tx_fail (hd : 1 ≤ d) (h : R none (am_mk (w_fl I) L, 0, 0)) : am_meth d 143 [.ref 93] (am_mk I L, 0, 0) R := by
  obtain ⟨d, rfl⟩ : ∃ e, d = e + 1 := ⟨d - 1, by omega⟩
  unfold w_fl at h
  refine ar_in rfl rfl rfl (r_Text_fail_0 ⟨fun c => ?_, fun c => ?_⟩)
  · rw [if_pos c] at h
    rintro _ rfl; exact h
  · rw [if_neg c] at h; exact h
theorem ok_Tx_addStep {x : Int32} (hd : 1 ≤ d) (hp : am_ix I 93 0 61) (h : R none (am_mk (w_as I x) L, 0, 0)) : am_meth d 141 [.ref 93, .int x] (am_mk I L, 0, 0) R := by
  obtain ⟨d, rfl⟩ : ∃ e, d = e + 1 := ⟨d - 1, by omega⟩
  unfold w_as at h
  refine ar_in rfl rfl rfl (r_Text_addStep_0 ⟨fun c => ?_, fun c => ?_⟩)
  · rw [if_pos c] at h
    rintro _ rfl
    have hp2 := hp.2
    have c3 := c
    rw [hp.1, show (60 : Int32) = nI 60 from rfl, nI_ltI (by omega) (by decide)] at c3
    refine ⟨am_n I 93 0, c3, hp.1, ?_⟩
    rintro _ rfl; exact h
  · rw [if_neg c] at h; exact h
theorem ok_Tx_isDigit {x : Int32} (hd : 1 ≤ d) (h1 : p_dig x = true → R (some (.int 1)) (am_mk I L, 0, 0)) (h0 : ¬ (p_dig x = true) → R (some (.int 0)) (am_mk I L, 0, 0)) : am_meth d 139 [.int x] (am_mk I L, 0, 0) R := by
  obtain ⟨d, rfl⟩ : ∃ e, d = e + 1 := ⟨d - 1, by omega⟩
  unfold p_dig at h1 h0
  rw [Bool.and_eq_true_iff, decide_eq_true_iff, decide_eq_true_iff] at h1 h0
  refine ar_in rfl rfl rfl (r_Text_isDigit_0 ⟨fun c => h0 (fun q => ?_), fun c => ⟨fun c2 => h1 ⟨Int32.not_lt.mp c, c2⟩, fun c2 => h0 (fun q => c2 q.2)⟩⟩)
  exact Int32.not_lt.mpr q.1 c
end TX1
