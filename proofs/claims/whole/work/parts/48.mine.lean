/-! a keeper's stays in the class's row 'mine' -/
def w_mn (I : am_V) (mm : Nat → Nat) (n : Nat) : Prop := I 99 8 = nI n ∧ n ≤ 119 ∧ ∀ i, i < n → I 101 i = nI (mm i) ∧ mm i < 60
/-- they are those that k has -/
def w_ga (V : am_V) (k : Int32) (mm : Nat → Nat) (n : Nat) : Prop := (∀ i, i < n → mm i < am_n V 113 14 ∧ V 128 (mm i) = 1 ∧ V 129 (mm i) = k) ∧ (∀ s, s < am_n V 113 14 → V 128 s = 1 → V 129 s = k → ∃ i, i < n ∧ mm i = s) ∧ ∀ i j, i < n → j < n → mm i = mm j → i = j
def w_m2 (I' I : am_V) : Prop := ∀ c, c ≠ 99 → c ≠ 101 → I' c = I c
/-- what the rules by days read, but for who has which stay -/
def w_rc (I V : am_V) : Prop := I 66 0 = V 113 0 ∧ I 17 = V 117 ∧ I 67 = V 125 ∧ I 68 = V 126 ∧ I 69 = V 127 ∧ I 43 = V 122 ∧ I 3 = V 114 ∧ I 4 = V 116 ∧ ∀ a b, a < 10 → b < 10 → I (6 + a) b = V 115 (10 * a + b)
section MN
variable {d : Nat} {I V : am_V} {L : Nat → Nat → Int64} {R : am_R}
theorem RC_m2 {I' : am_V} (h : w_m2 I' I) (hc : RC I V) : RC I' V := by
  have h2 : ∀ c, c ≠ 99 → c ≠ 101 → I' c = I c := h
  unfold RC Cn Ce Ca Cr Cc Cp am_r10 am_r20 am_q20 at hc ⊢
  simp (disch := decide) only [h2] at ⊢
  exact hc
theorem m2_hi {I' : am_V} (h : w_m2 I' I) : am_hi I' I := fun c hc => h c (by omega) (by omega)
theorem ok_Ru_gather {k : Int32} (hd : 2 ≤ d) (hc : RC I V) (hv : Inv V) (h : ∀ I' L' mm n, RC I' V → w_m2 I' I → w_mn I' mm n → w_ga V k mm n → n ≤ am_n V 113 14 → R none (am_mk I' L', 0, 0)) : am_meth d 93 [.ref 99, .int k] (am_mk I L, 0, 0) R := by
  obtain ⟨d, rfl⟩ : ∃ e, d = e + 1 := ⟨d - 1, by omega⟩
  refine ar_in rfl rfl rfl (r_Rules_gatherStaysOf_0 ?_)
  rintro _ rfl
  have hn := hv.1.2.2.2.1
  have hn2 := hn.2
  refine am_up (P := fun s => ∀ (I' : am_V) (mm : Nat → Nat) (n : Nat), w_m2 I' I → n ≤ s → I' 99 8 = nI n → (∀ i, i < n → I' 101 i = nI (mm i) ∧ mm i < s) → (∀ i, i < n → V 128 (mm i) = 1 ∧ V 129 (mm i) = k) → (∀ x, x < s → V 128 x = 1 → V 129 x = k → ∃ i, i < n ∧ mm i = x) → (∀ i j, i < n → j < n → mm i = mm j → i = j) → am_Run am_X0 (am_meth d) 93 R 7 [some (.ref 99), some (.int k), some (.int (nI s))] [] (am_mk I' L, 0, 0)) (n := am_n V 113 14) (fun I' mm n f hns f1 f2 f3 f4 f5 => ?_) (fun s hs ih I' mm n f hns f1 f2 f3 f4 f5 => ?_) _ (fun _ => 0) 0 (fun c c1 c2 => by rw [am_vat, if_neg c1]) (Nat.le_refl _) rfl (fun i hi => absurd hi (Nat.not_lt_zero i)) (fun i hi => absurd hi (Nat.not_lt_zero i)) (fun i hi => absurd hi (Nat.not_lt_zero i)) (fun i j hi => absurd hi (Nat.not_lt_zero i))
  · have hc' := RC_m2 f hc
    have en : I' 66 1 = nI (am_n V 113 14) := by rw [hc'.1.2.2.2.1]; exact hn.1
    exact r_Rules_gatherStaysOf_7 (by omega) ⟨fun c => absurd (en ▸ c) (nI_nlt (Nat.le_refl _) (by omega)), fun _ => h I' L mm n hc' f ⟨f1, by omega, fun i hi => ⟨(f2 i hi).1, by have := (f2 i hi).2; omega⟩⟩ ⟨fun i hi => ⟨(f2 i hi).2, f3 i hi⟩, f4, f5⟩ hns⟩
  · have hc' := RC_m2 f hc
    have en : I' 66 1 = nI (am_n V 113 14) := by rw [hc'.1.2.2.2.1]; exact hn.1
    have h60 : s < 60 := by omega
    have e70 : I' 70 = V 128 := hc'.2.1.2.2.2.2.2.2.2.2.2.2.2.2.1
    have e71 := hc'.2.2.1.2.2.2.1 s h60
    rw [if_pos hs] at e71
    have e9 : am_n I' 99 8 = n := am_n_e f1 (by omega)
    refine r_Rules_gatherStaysOf_7 (by omega) ⟨fun _ => ⟨h60, ?_⟩, fun c => absurd (by rw [en]; exact nI_lt hs (by omega)) c⟩
    rw [e70, e71]
    refine ⟨fun c => ⟨⟨by rw [e9]; exact f1, by rw [e9]; omega⟩, ?_⟩, fun c => ?_⟩
    · refine ih _ (fun i => if i = n then s else mm i) (n + 1) (fun c c1 c2 => ?_) (by omega) ?_ (fun i hi => ?_) (fun i hi => ?_) (fun x hx q1 q2 => ?_) (fun i j hi hj q => ?_)
      · rw [am_vat, if_neg c2, am_vat, if_neg c1]; exact f c c1 c2
      · show I' 99 8 + 1 = _
        rw [f1, nI_1]
      · show upd (I' 101) (am_n I' 99 8) (nI s) i = nI (if i = n then s else mm i) ∧ (if i = n then s else mm i) < s + 1
        rw [e9, am_uat]
        by_cases e : i = n
        · rw [if_pos e, if_pos e]; exact ⟨rfl, by omega⟩
        · rw [if_neg e, if_neg e]
          have w := f2 i (by omega)
          exact ⟨w.1, by omega⟩
      · show V 128 (if i = n then s else mm i) = 1 ∧ V 129 (if i = n then s else mm i) = k
        by_cases e : i = n
        · rw [if_pos e]; exact c
        · rw [if_neg e]; exact f3 i (by omega)
      · by_cases e : x = s
        · exact ⟨n, by omega, by rw [if_pos rfl, e]⟩
        · obtain ⟨i, hi, w⟩ := f4 x (by omega) q1 q2
          exact ⟨i, by omega, by rw [if_neg (by omega)]; exact w⟩
      · have q2 : (if i = n then s else mm i) = (if j = n then s else mm j) := q
        by_cases e : i = n
        · by_cases e2 : j = n
          · omega
          · rw [if_pos e, if_neg e2] at q2
            have := (f2 j (by omega)).2; omega
        · by_cases e2 : j = n
          · rw [if_neg e, if_pos e2] at q2
            have := (f2 i (by omega)).2; omega
          · rw [if_neg e, if_neg e2] at q2
            exact f5 i j (by omega) (by omega) q2
    · refine ih I' mm n f (by omega) f1 (fun i hi => ⟨(f2 i hi).1, by have := (f2 i hi).2; omega⟩) f3 (fun x hx q1 q2 => ?_) f5
      by_cases e : x = s
      · subst e; exact absurd ⟨q1, q2⟩ c
      · exact f4 x (by omega) q1 q2
/-- two stays have a day in common -/
def s_ov (V : am_V) (j s : Nat) : Bool := decide (V 126 j ≤ V 127 s ∧ ¬ V 127 j < V 126 s)
theorem ov_iff {j s : Nat} : s_ov V j s = true ↔ V 126 j ≤ V 127 s ∧ ¬ V 127 j < V 126 s := decide_eq_true_iff
theorem ov_dw {j s : Nat} (hv : Inv V) (hj : j < am_n V 113 14) (hs : s < am_n V 113 14) : ¬ am_dw (V 126 j) (V 127 j) (V 126 s) (V 127 s) ≤ 0 ↔ s_ov V j s = true := by
  have hn2 := hv.1.2.2.2.1.2
  have a1 := hv.2.2.2.1.1 j (by omega)
  have a2 := hv.2.2.2.1.1 s (by omega)
  have b1 := (hv.2.2.2.1.2 j hj).1.1
  have b2 := (hv.2.2.2.1.2 s hs).1.1
  have t1 := a1.2.2.1.2
  have t2 := a2.2.2.1.2
  have dw := dw_pos (f := am_n V 126 j) (t := am_n V 127 j) (a := am_n V 126 s) (b := am_n V 127 s) b1 b2 (by omega) (by omega)
  rw [← a1.2.1.1, ← a1.2.2.1.1, ← a2.2.1.1, ← a2.2.2.1.1] at dw
  rw [dw, ov_iff, a1.2.1.1, a1.2.2.1.1, a2.2.1.1, a2.2.2.1.1, nI_leI (by omega) (by omega), nI_ltI (by omega) (by omega)]
  omega
theorem w_rc_of (hc : RC I V) : w_rc I V := by
  obtain ⟨⟨n1, n2, n3, n4, n5, n6, n7, n8⟩, ⟨e1, e2, e3, e4, e5, e6, e7, e8, e9, e10, e11, e12, e13, e14, e15, e16, e17⟩, -⟩ := id hc
  exact ⟨n3, e4, e10, e11, e12, e8, e2, e3, fun a b ha hb => by rw [← hc.2.2.1.1 a b ha hb, r10_e ha]⟩
theorem ok_Ru_clashes {s n : Nat} {mm : Nat → Nat} (hd : 3 ≤ d) (hw : w_rc I V) (hv : Inv V) (hm : w_mn I mm n) (hin : ∀ i, i < n → mm i < am_n V 113 14) (hs : s < am_n V 113 14) (h1 : s_any (fun i => s_ov V (mm i) s) n = true → R (some (.int 1)) (am_mk I L, 0, 0)) (h0 : s_any (fun i => s_ov V (mm i) s) n = false → R (some (.int 0)) (am_mk I L, 0, 0)) : am_meth d 99 [.ref 99, .int (nI s)] (am_mk I L, 0, 0) R := by
  obtain ⟨d, rfl⟩ : ∃ e, d = e + 1 := ⟨d - 1, by omega⟩
  refine ar_in rfl rfl rfl (r_Rules_clashesWithMine_0 ?_)
  have e11 : I 68 = V 126 := hw.2.2.2.1
  have e12 : I 69 = V 127 := hw.2.2.2.2.1
  have hn2 := hv.1.2.2.2.1.2
  have hm2 := hm.2.1
  refine am_up (P := fun i => s_any (fun i => s_ov V (mm i) s) i = false → am_Run am_X0 (am_meth d) 99 R 2 [some (.ref 99), some (.int (nI s)), some (.int (nI i))] [] (am_mk I L, 0, 0)) (n := n) (fun hf => ?_) (fun i hi ih hf => ?_) rfl
  · exact r_Rules_clashesWithMine_2 (by omega) ⟨fun c => absurd (hm.1 ▸ c) (nI_nlt (Nat.le_refl _) (by omega)), fun _ => h0 hf⟩
  · have w := hm.2.2 i hi
    have ov := ov_dw hv (hin i hi) hs
    refine r_Rules_clashesWithMine_2 (by omega) ⟨fun _ => ⟨by omega, by omega, mm i, w.1, w.2, ?_⟩, fun c => absurd (by rw [hm.1]; exact nI_lt hi (by omega)) c⟩
    rw [e11, e12]
    refine ⟨fun c => ih ?_, fun c => h1 (s_any_of hi (ov.mp c))⟩
    rw [s_any, hf, Bool.false_or]
    exact Bool.eq_false_iff.mpr (fun q => ov.mpr q c)
end MN
