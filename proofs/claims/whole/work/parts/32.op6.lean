/-! claim, where, stars, stay -/
theorem am_neg_msb {x : Int32} : x < 0 ↔ x.toBitVec.msb = true := by
  rw [Int32.lt_iff_toInt_lt, BitVec.msb_eq_toInt, decide_eq_true_iff]
  exact Iff.rfl
theorem am_and_pos {x y : Int32} (h : ¬ x < 0) : ¬ x &&& y < 0 := by
  rw [am_neg_msb] at h ⊢
  have e : (x &&& y).toBitVec = x.toBitVec &&& y.toBitVec := rfl
  rw [e, BitVec.msb_and, Bool.and_eq_true]
  exact fun q => h q.1
def s_any (P : Nat → Bool) : Nat → Bool
  | 0 => false
  | s + 1 => s_any P s || P s
theorem s_any_of {P : Nat → Bool} {n s : Nat} (hs : s < n) (h : P s = true) : s_any P n = true := by
  induction n with
  | zero => omega
  | succ n ih =>
    unfold s_any
    by_cases e : s = n
    · subst e; rw [h, Bool.or_true]
    · rw [ih (by omega), Bool.true_or]
theorem s_any_ex {P : Nat → Bool} {n : Nat} (h : s_any P n = true) : ∃ s, s < n ∧ P s = true := by
  induction n with
  | zero => exact Bool.noConfusion h
  | succ n ih =>
    unfold s_any at h
    rcases Bool.or_eq_true_iff.mp h with q | q
    · obtain ⟨s, hs, e⟩ := ih q; exact ⟨s, by omega, e⟩
    · exact ⟨n, by omega, q⟩
theorem s_any_congr {P Q : Nat → Bool} {n : Nat} (h : ∀ s, s < n → P s = Q s) : s_any P n = s_any Q n := by
  induction n with
  | zero => rfl
  | succ n ih =>
    unfold s_any
    rw [h n (by omega), ih (fun s hs => h s (by omega))]
section OP6
variable {d : Nat} {I V : am_V} {L : Nat → Nat → Int64} {R : am_R}
/-- what a house's items come to -/
def s_price (f : Nat → Int32) (x : Int32) (n : Nat) : Int32 := s_s (fun i => decide ((x >>> (nI i &&& 31)) &&& 1 = 1)) (fun i => 5 + 10 * f i) n
theorem ok_Ho_priceOf {x y : Int32} {ho : Nat} (hd : 1 ≤ d) (hy : y = nI ho) (hh : ho < 20) (h : R (some (.int (s_price (I (46 + ho)) x 31))) (am_mk I L, 0, 0)) : am_meth d 51 [.ref 42, .int y, .int x] (am_mk I L, 0, 0) R := by
  obtain ⟨d, rfl⟩ : ∃ e, d = e + 1 := ⟨d - 1, by omega⟩
  subst hy
  refine ar_in rfl rfl rfl (r_Houses_priceOf_0 ?_)
  refine am_up (P := fun s => am_Run am_X0 (am_meth d) 51 R 5 [some (.ref 42), some (.int (nI ho)), some (.int x), some (.int (s_price (I (46 + ho)) x s)), some (.int (nI s))] [] (am_mk I L, 0, 0)) (n := 31) ?_ (fun s hs ih => ?_)
  · exact r_Houses_priceOf_5 ⟨fun c => absurd c (by decide), fun _ => h⟩
  · refine r_Houses_priceOf_5 ⟨fun _ => ⟨fun c => ⟨hh, hs, ?_⟩, fun c => ?_⟩, fun c => absurd (nI_lt (b := 31) hs (by decide)) c⟩
    · simp only [s_price, s_s, c, decide_true, if_true] at ih ⊢; exact ih
    · simp only [s_price, s_s, c, decide_false, Bool.false_eq_true, if_false] at ih ⊢; exact ih
def o_claim (V : am_V) (s : Int32) : Int32 × am_V := if 0 ≤ s ∧ s < V 113 14 then (if V 132 (2 * s.toNatClampNeg) < 0 ∨ V 132 (2 * s.toNatClampNeg + 1) < 0 then o_no V 3 (-3) else (s_price (fun i => V 124 (31 * am_n V 125 s.toNatClampNeg + i)) (V 132 (2 * s.toNatClampNeg) &&& (V 132 (2 * s.toNatClampNeg + 1) ^^^ -1)) 31, V)) else o_no V 1 (-1)
theorem C_claim {s : Int32} (hd : 2 ≤ d) (hc : RC I V) (hv : Inv V) (h : ∀ I' L', RC I' (o_claim V s).2 → am_hi I' I → R (some (.int (o_claim V s).1)) (am_mk I' L', 0, 0)) : am_meth d 41 [.ref 0, .int s] (am_mk I L, 0, 0) R := by
  obtain ⟨d, rfl⟩ : ∃ e, d = e + 1 := ⟨d - 1, by omega⟩
  refine ar_in rfl rfl rfl (r_H_claim_0 (by omega) ?_)
  obtain ⟨⟨n1, n2, n3, n4, n5, n6, n7, n8⟩, ⟨e1, e2, e3, e4, e5, e6, e7, e8, e9, e10, e11, e12, e13, e14, e15, e16, e17⟩, -⟩ := id hc
  simp only [n1, n2, n3, n4, n5, n6, n7, n8, e1, e2, e3, e4, e5, e6, e7, e8, e9, e10, e11, e12, e13, e14, e15, e16, e17]
  unfold o_claim at h
  refine ⟨fun c => ?_, fun c => ?_⟩
  · rw [if_pos c] at h
    have hk := hv.1.2.2.2.1
    have hk2 := hk.2
    rw [hk.1] at c
    obtain ⟨i, hi, rfl⟩ := am_nat c (by omega)
    rw [nI_clamp (by omega)] at h
    have hi2 : i < 60 := by omega
    have t1 := it_lt hv (r := 2 * i) (by omega)
    have t2 := it_lt hv (r := 2 * i + 1) (by omega)
    have l7 := hc.2.2.1.2.2.2.2 i hi2
    have hh := (hv.2.2.2.1.1 i hi2).1
    simp only [t1, t2] at h
    refine ⟨i, rfl, hi2, ?_⟩
    rw [l7.1, l7.2]
    refine ⟨fun c2 => ⟨i, hi2, rfl, hi2, ?_⟩, fun c2 => ?_⟩
    · rw [l7.1, l7.2]
      rw [if_neg (fun q => q.elim c2.1 c2.2)] at h
      refine ok_Ho_priceOf (by omega) hh.1 hh.2 ⟨_, _, _, rfl, rfl, ?_⟩
      have e : s_price (I (46 + am_n V 125 i)) (V 132 (2 * i) &&& (V 132 (2 * i + 1) ^^^ -1)) 31 = s_price (fun j => V 124 (31 * am_n V 125 i + j)) (V 132 (2 * i) &&& (V 132 (2 * i + 1) ^^^ -1)) 31 := by
        unfold s_price
        refine s_s_congr (fun _ _ => rfl) (fun j hj _ => ?_)
        have q := hc.2.2.1.2.2.1 (am_n V 125 i) j hh.2 hj
        rw [q20_e hh.2] at q
        rw [q]
      rw [e]
      exact h _ _ hc hi_r
    · rw [if_pos (by by_cases q : V 132 (2 * i) = -1; exact Or.inl q; exact Or.inr (Decidable.byContradiction (fun w => c2 ⟨q, w⟩)))] at h
      (exact h _ _ (RC_no hc) (hi_up (by decide) hi_r))
  · (rw [if_neg c] at h; exact h _ _ (RC_no hc) (hi_up (by decide) hi_r))
theorem M_claim {s : Int32} (hd : 2 ≤ d) (hm : RM I V) (hv : Inv V) (h : ∀ I' L', RM I' (o_claim V s).2 → am_lo I' I → R (some (.int (o_claim V s).1)) (am_mk I' L', 0, 0)) : am_meth d 238 [.ref 113, .int s] (am_mk I L, 0, 0) R := by
  obtain ⟨d, rfl⟩ : ∃ e, d = e + 1 := ⟨d - 1, by omega⟩
  refine ar_in rfl rfl rfl (r_M_claim_0 (by omega) ?_)
  have mc := hm.1; have mf := hm.2
  simp (disch := decide) only [mc, mf]
  unfold o_claim at h
  refine ⟨fun c => ?_, fun c => ?_⟩
  · rw [if_pos c] at h
    have hk := hv.1.2.2.2.1
    have hk2 := hk.2
    rw [hk.1] at c
    obtain ⟨i, hi, rfl⟩ := am_nat c (by omega)
    rw [nI_clamp (by omega)] at h
    have hi2 : i < 60 := by omega
    have hh := (hv.2.2.2.1.1 i hi2).1
    have hh2 := hh.2
    refine ⟨i, rfl, hi2, fun c2 => ?_, fun c2 => ⟨fun c3 => ?_, fun c3 => ?_⟩⟩
    · (rw [if_pos c2] at h; exact h _ _ (RM_no hm) (lo_up (by decide) lo_r))
    · exact absurd c3 (am_and_pos (fun q => c2 (Or.inl q)))
    · rw [if_neg c2] at h
      generalize V 132 (2 * i) &&& (V 132 (2 * i + 1) ^^^ -1) = x at h ⊢
      refine am_up (P := fun s => am_Run am_X0 (am_meth d) 238 R 36 [some (.ref 113), some (.int (nI i)), some (.int x), some (.int (s_price (fun j => V 124 (31 * am_n V 125 i + j)) x s)), some (.int (nI s))] [] (am_mk I L, 0, 0)) (n := 31) ?_ (fun s hs ih => ?_)
      · exact r_M_claim_36 ⟨fun c => absurd c (by decide), fun _ => h _ _ hm lo_r⟩
      · refine r_M_claim_36 ⟨fun _ => ⟨fun c => ⟨hi2, 31 * am_n V 125 i + s, by omega, ?_, ?_⟩, fun c => ?_⟩, fun c => absurd (nI_lt (b := 31) hs (by decide)) c⟩
        · rw [mc 125 rfl, hh.1, am_31]
        · rw [mc 124 rfl]
          simp only [s_price, s_s, c, decide_true, if_true] at ih ⊢; exact ih
        · simp only [s_price, s_s, c, decide_false, Bool.false_eq_true, if_false] at ih ⊢; exact ih
  · (rw [if_neg c] at h; exact h _ _ (RM_no hm) (lo_up (by decide) lo_r))
theorem I_claim {s : Int32} (hv : Inv V) : Inv (o_claim V s).2 := by
  unfold o_claim
  split
  · split <;> exact hv
  · exact hv
/-- the stay of a keeper that ended last ahead of a day -/
def s_last (V : am_V) (k day : Int32) : Nat → Option Nat
  | 0 => none
  | s + 1 => if (V 128 s = 1 ∧ V 129 s = k) ∧ V 127 s < day then (match s_last V k day s with
    | none => some s
    | some j => if V 127 s ≤ V 127 j then some j else some s) else s_last V k day s
theorem s_last_lt {V : am_V} {k day : Int32} : ∀ {n j : Nat}, s_last V k day n = some j → j < n
  | 0, _, h => nomatch h
  | n + 1, j, h => by
    unfold s_last at h
    split at h
    · split at h
      · injection h with e; omega
      · rename_i i hi
        split at h
        · injection h with e; have := s_last_lt hi; omega
        · injection h with e; omega
    · have := s_last_lt h; omega
def s_town (V : am_V) (k : Nat) (day : Int32) : Int32 := match s_last V (nI k) day (am_n V 113 14) with
  | none => V 117 k
  | some j => V 122 (am_n V 125 j)
def am_on (x : Int32) : Option Nat → Int32
  | none => x
  | some j => nI j
theorem ok_Ru_townOn {k : Nat} {x day : Int32} (hd : 2 ≤ d) (hc : RC I V) (hv : Inv V) (hx : x = nI k) (hk : k < 20) (h : R (some (.int (s_town V k day))) (am_mk I L, 0, 0)) : am_meth d 110 [.ref 99, .int x, .int day] (am_mk I L, 0, 0) R := by
  obtain ⟨d, rfl⟩ : ∃ e, d = e + 1 := ⟨d - 1, by omega⟩
  subst hx
  refine ar_in rfl rfl rfl (r_Rules_townOn_0 ?_)
  obtain ⟨⟨n1, n2, n3, n4, n5, n6, n7, n8⟩, ⟨e1, e2, e3, e4, e5, e6, e7, e8, e9, e10, e11, e12, e13, e14, e15, e16, e17⟩, -⟩ := id hc
  have hn := hv.1.2.2.2.1
  have hn2 := hn.2
  have en : I 66 1 = nI (am_n V 113 14) := by rw [n4]; exact hn.1
  refine am_up (P := fun s => am_Run am_X0 (am_meth d) 110 R 6 [some (.ref 99), some (.int (nI k)), some (.int day), some (.int (am_on (-9) (s_last V (nI k) day s))), some (.int (nI s))] [] (am_mk I L, 0, 0)) (n := am_n V 113 14) ?_ (fun s hs ih => ?_)
  · refine r_Rules_townOn_6 (by omega) ⟨fun c => absurd (en ▸ c) (nI_nlt (Nat.le_refl _) (by omega)), fun _ => ?_⟩
    unfold s_town at h
    revert h
    cases e : s_last V (nI k) day (am_n V 113 14) with
    | none => exact fun h => ⟨fun _ => ⟨hk, by rw [e4]; exact h⟩, fun c => absurd rfl c⟩
    | some j =>
      have hj := s_last_lt e
      have hh := (hv.2.2.2.1.1 j (by omega)).1
      refine fun h => ⟨fun c => absurd c ?_, fun _ => ⟨j, rfl, by omega, ?_, ?_⟩⟩
      · intro q
        have := nI_pos (n := j) (by omega)
        rw [show nI j = -9 from q] at this
        exact this (by decide)
      · unfold am_ix am_n; rw [e10]; exact hh
      · unfold am_n; rw [e10, e8]; exact h
  · have h60 : s < 60 := by omega
    have e71 := hc.2.2.1.2.2.2.1 s h60
    rw [if_pos hs] at e71
    refine r_Rules_townOn_6 (by omega) ⟨fun _ => ⟨h60, ?_⟩, fun c => absurd (by rw [en]; exact nI_lt hs (by omega)) c⟩
    rw [e71, e13, e12]
    have ih2 := ih
    simp only [s_last] at ih2
    refine ⟨fun c => ⟨h60, fun c2 => ?_, fun c2 => ?_⟩, fun c => ?_⟩
    · rw [if_pos ⟨c, c2⟩] at ih2
      revert ih2
      cases e : s_last V (nI k) day s with
      | none => exact fun ih2 => ⟨fun _ => ih2, fun c => absurd rfl c⟩
      | some j =>
        have hj := s_last_lt e
        refine fun ih2 => ⟨fun c => absurd c ?_, fun _ => ⟨j, by omega, rfl, fun c4 => ?_, fun c4 => ?_⟩⟩
        · intro q
          have := nI_pos (n := j) (by omega)
          rw [show nI j = -9 from q] at this
          exact this (by decide)
        · simp only [if_pos c4] at ih2; exact ih2
        · simp only [if_neg c4] at ih2; exact ih2
    · rw [if_neg (fun q => c2 q.2)] at ih2; exact ih2
    · rw [if_neg (fun q => c q.1)] at ih2; exact ih2
theorem ok_M_whereOf {k : Nat} {x day : Int32} (hd : 2 ≤ d) (hm : RM I V) (hv : Inv V) (hx : x = nI k) (hk : k < 20) (h : R (some (.int (s_town V k day))) (am_mk I L, 0, 0)) : am_meth d 194 [.ref 113, .int x, .int day] (am_mk I L, 0, 0) R := by
  obtain ⟨d, rfl⟩ : ∃ e, d = e + 1 := ⟨d - 1, by omega⟩
  subst hx
  refine ar_in rfl rfl rfl (r_M_whereOf_0 ?_)
  have mc := hm.1; have mf := hm.2
  have hn := hv.1.2.2.2.1
  have hn2 := hn.2
  have en : I 113 14 = nI (am_n V 113 14) := by rw [mf 14 rfl]; exact hn.1
  refine am_up (P := fun s => am_Run am_X0 (am_meth d) 194 R 5 [some (.ref 113), some (.int (nI k)), some (.int day), some (.int (am_on (-1) (s_last V (nI k) day s))), some (.int (nI s))] [] (am_mk I L, 0, 0)) (n := am_n V 113 14) ?_ (fun s hs ih => ?_)
  · refine r_M_whereOf_5 (by omega) ⟨fun c => absurd (en ▸ c) (nI_nlt (Nat.le_refl _) (by omega)), fun _ => ?_⟩
    unfold s_town at h
    revert h
    cases e : s_last V (nI k) day (am_n V 113 14) with
    | none => exact fun h => ⟨fun _ => ⟨hk, by rw [mc 117 rfl]; exact h⟩, fun c => absurd (show (-1 : Int32) < 0 by decide) c⟩
    | some j =>
      have hj := s_last_lt e
      have hh := (hv.2.2.2.1.1 j (by omega)).1
      refine fun h => ⟨fun c => absurd c (nI_pos (n := j) (by omega)), fun _ => ⟨j, rfl, by omega, ?_, ?_⟩⟩
      · unfold am_ix am_n; rw [mc 125 rfl]; exact hh
      · unfold am_n; rw [mc 125 rfl, mc 122 rfl]; exact h
  · have h60 : s < 60 := by omega
    refine r_M_whereOf_5 (by omega) ⟨fun _ => ⟨h60, ?_⟩, fun c => absurd (by rw [en]; exact nI_lt hs (by omega)) c⟩
    rw [mc 129 rfl, mc 128 rfl, mc 127 rfl]
    have ih2 := ih
    simp only [s_last] at ih2
    refine ⟨fun c => ⟨h60, fun c2 => ?_, fun c2 => ?_⟩, fun c => ?_⟩
    · rw [if_pos ⟨c, c2⟩] at ih2
      revert ih2
      cases e : s_last V (nI k) day s with
      | none => exact fun ih2 => ⟨fun _ => ih2, fun c => absurd (show (-1 : Int32) < 0 by decide) c⟩
      | some j =>
        have hj := s_last_lt e
        refine fun ih2 => ⟨fun c => absurd c (nI_pos (n := j) (by omega)), fun _ => ⟨j, by omega, rfl, fun c4 => ?_, fun c4 => ?_⟩⟩
        · simp only [if_pos c4] at ih2; exact ih2
        · simp only [if_neg c4] at ih2; exact ih2
    · rw [if_neg (fun q => c2 q.2)] at ih2; exact ih2
    · rw [if_neg (fun q => c q.1)] at ih2; exact ih2
def o_where (V : am_V) (k x : Int32) : Int32 × am_V := if 0 ≤ k ∧ k < V 113 4 then (if x < 0 then o_no V 4 (-4) else if x ≤ 1500 then (s_town V k.toNatClampNeg x, V) else o_no V 6 (-6)) else o_no V 1 (-1)
theorem C_where {k x : Int32} (hd : 3 ≤ d) (hc : RC I V) (hv : Inv V) (h : ∀ I' L', RC I' (o_where V k x).2 → am_hi I' I → R (some (.int (o_where V k x).1)) (am_mk I' L', 0, 0)) : am_meth d 14 [.ref 0, .int k, .int x] (am_mk I L, 0, 0) R := by
  obtain ⟨d, rfl⟩ : ∃ e, d = e + 1 := ⟨d - 1, by omega⟩
  refine ar_in rfl rfl rfl (r_H_where_0 (by omega) ?_)
  obtain ⟨⟨n1, n2, n3, n4, n5, n6, n7, n8⟩, ⟨e1, e2, e3, e4, e5, e6, e7, e8, e9, e10, e11, e12, e13, e14, e15, e16, e17⟩, -⟩ := id hc
  rw [n1]
  unfold o_where at h
  refine ⟨fun c => ⟨fun c2 => ?_, fun c2 => ?_, fun c2 => ?_⟩, fun c => ?_⟩
  · (rw [if_pos c, if_pos c2] at h; exact h _ _ (RC_no hc) (hi_up (by decide) hi_r))
  · rw [if_pos c, if_neg c2.1, if_neg (Int32.not_le.mpr c2.2)] at h; (exact h _ _ (RC_no hc) (hi_up (by decide) hi_r))
  · rw [if_pos c, if_neg c2.1, if_pos (Int32.not_lt.mp c2.2)] at h
    have hk := hv.1.2.1
    have hk2 := hk.2
    rw [hk.1] at c
    obtain ⟨i, hi, rfl⟩ := am_nat c (by omega)
    rw [nI_clamp (by omega)] at h
    exact ok_Ru_townOn (by omega) hc hv rfl (by omega) ⟨_, _, _, rfl, rfl, h _ _ hc hi_r⟩
  · (rw [if_neg c] at h; exact h _ _ (RC_no hc) (hi_up (by decide) hi_r))
theorem M_where {k x : Int32} (hd : 3 ≤ d) (hm : RM I V) (hv : Inv V) (h : ∀ I' L', RM I' (o_where V k x).2 → am_lo I' I → R (some (.int (o_where V k x).1)) (am_mk I' L', 0, 0)) : am_meth d 193 [.ref 113, .int k, .int x] (am_mk I L, 0, 0) R := by
  obtain ⟨d, rfl⟩ : ∃ e, d = e + 1 := ⟨d - 1, by omega⟩
  refine ar_in rfl rfl rfl (r_M_where_0 (by omega) ?_)
  rw [hm.2 4 rfl]
  unfold o_where at h
  refine ⟨fun c => ⟨fun c2 => ?_, fun c2 => ⟨fun c3 => ?_, fun c3 => ?_⟩⟩, fun c => ?_⟩
  · (rw [if_pos c, if_pos c2] at h; exact h _ _ (RM_no hm) (lo_up (by decide) lo_r))
  · rw [if_pos c, if_neg c2, if_pos c3] at h
    have hk := hv.1.2.1
    have hk2 := hk.2
    rw [hk.1] at c
    obtain ⟨i, hi, rfl⟩ := am_nat c (by omega)
    rw [nI_clamp (by omega)] at h
    exact ok_M_whereOf (by omega) hm hv rfl (by omega) ⟨_, _, _, rfl, rfl, h _ _ hm lo_r⟩
  · (rw [if_pos c, if_neg c2, if_neg c3] at h; exact h _ _ (RM_no hm) (lo_up (by decide) lo_r))
  · (rw [if_neg c] at h; exact h _ _ (RM_no hm) (lo_up (by decide) lo_r))
theorem I_where {k x : Int32} (hv : Inv V) : Inv (o_where V k x).2 := by
  unfold o_where
  repeat' split
  all_goals exact hv
end OP6
