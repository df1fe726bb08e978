/-! the class's and the reference's search for them -/
section LT
variable {d : Nat} {I V : am_V} {L : Nat → Nat → Int64} {R : am_R}
theorem on_ne {j : Nat} (hj : j < 60) : ¬ nI j = -9 := fun q => by
  have := nI_pos (n := j) (by omega)
  rw [q] at this
  exact this (by decide)
theorem ok_Ru_lastOf {s n : Nat} {mm : Nat → Nat} {k : Int32} (hd : 1 ≤ d) (hw : w_rc I V) (hv : Inv V) (hm : w_mn I mm n) (hg : w_ga V k mm n) (hs : s < am_n V 113 14) (h : R (some (.int (am_on (-9) (s_last V k (V 126 s) (am_n V 113 14))))) (am_mk I L, 0, 0)) : am_meth d 101 [.ref 99, .int (nI s)] (am_mk I L, 0, 0) R := by
  obtain ⟨d, rfl⟩ : ∃ e, d = e + 1 := ⟨d - 1, by omega⟩
  refine ar_in rfl rfl rfl (r_Rules_lastOfMineAheadOf_0 ?_)
  have e11 : I 68 = V 126 := hw.2.2.2.1
  have e12 : I 69 = V 127 := hw.2.2.2.2.1
  have hn2 := hv.1.2.2.2.1.2
  have hm2 := hm.2.1
  refine am_up (P := fun i => ∀ o : Option Nat, (o = none → ∀ x, x < i → ¬ V 127 (mm x) < V 126 s) → (∀ j, o = some j → V 127 j < V 126 s ∧ (∃ x, x < i ∧ mm x = j) ∧ ∀ y, y < i → V 127 (mm y) < V 126 s → V 127 (mm y) ≤ V 127 j) → am_Run am_X0 (am_meth d) 101 R 5 [some (.ref 99), some (.int (nI s)), some (.int (am_on (-9) o)), some (.int (nI i))] [] (am_mk I L, 0, 0)) (n := n) (fun o f1 f2 => ?_) (fun i hi ih o f1 f2 => ?_) none (fun _ x hx => absurd hx (Nat.not_lt_zero x)) (fun j e => nomatch e)
  · refine r_Rules_lastOfMineAheadOf_5 ⟨fun c => absurd (hm.1 ▸ c) (nI_nlt (Nat.le_refl _) (by omega)), fun _ => ?_⟩
    have e : o = s_last V k (V 126 s) (am_n V 113 14) := by
      refine w_L_u hv ⟨fun q i hi a1 a2 => ?_, fun j q => ?_⟩ (w_L_last _)
      · obtain ⟨x, hx, e⟩ := hg.2.1 i hi a1 a2
        have := f1 q x hx
        rw [e] at this; exact this
      · obtain ⟨b1, ⟨x, hx, e⟩, b3⟩ := f2 j q
        have g := hg.1 x hx
        rw [e] at g
        refine ⟨g.1, g.2.1, g.2.2, b1, fun i hi a1 a2 a3 => ?_⟩
        obtain ⟨y, hy, e2⟩ := hg.2.1 i hi a1 a2
        have := b3 y hy
        rw [e2] at this
        exact this a3
    rw [e]; exact h
  · have w := hm.2.2 i hi
    refine r_Rules_lastOfMineAheadOf_5 ⟨fun _ => ⟨by omega, mm i, w.2, w.1, by omega, ?_⟩, fun c => absurd (by rw [hm.1]; exact nI_lt hi (by omega)) c⟩
    rw [e11, e12, w.1]
    have new : (∀ y, y < i → V 127 (mm y) < V 126 s → V 127 (mm y) ≤ V 127 (mm i)) → V 127 (mm i) < V 126 s → am_Run am_X0 (am_meth d) 101 R 5 [some (.ref 99), some (.int (nI s)), some (.int (nI (mm i))), some (.int (nI (i + 1)))] [] (am_mk I L, 0, 0) := fun g1 g2 => by
      refine ih (some (mm i)) (fun q => nomatch q) (fun j q => ?_)
      have e : mm i = j := by simpa using q
      subst e
      refine ⟨g2, ⟨i, by omega, rfl⟩, fun y hy a => ?_⟩
      by_cases x : y = i
      · subst x; exact Int32.le_refl _
      · exact g1 y (by omega) a
    refine ⟨fun c => ?_, fun c => ?_⟩
    · cases o with
      | none => exact ⟨fun _ => new (fun y hy a => absurd a (f1 rfl y hy)) c, fun q => absurd rfl q⟩
      | some j =>
        obtain ⟨b1, ⟨x, hx, e⟩, b3⟩ := f2 j rfl
        have hj : j < 60 := by rw [← e]; exact (hm.2.2 x (by omega)).2
        refine ⟨fun q => absurd q (on_ne hj), fun _ => ⟨j, hj, rfl, fun c2 => ?_, fun c2 => ?_⟩⟩
        · refine ih (some j) (fun q => nomatch q) (fun j' q => ?_)
          have e' : j = j' := by simpa using q
          subst e'
          refine ⟨b1, ⟨x, by omega, e⟩, fun y hy a => ?_⟩
          by_cases z : y = i
          · subst z; exact c2
          · exact b3 y (by omega) a
        · refine new (fun y hy a => ?_) c
          have := b3 y hy a
          clear f1 f2 b3 ih new h hg; (simp (disch := omega) only [Int32.lt_iff_toInt_lt, Int32.le_iff_toInt_le, ← Int32.toInt_inj, Int32.reduceToInt, nI_toInt] at *; omega)
    · refine ih o (fun q x hx => ?_) (fun j q => ?_)
      · by_cases z : x = i
        · subst z; exact c
        · exact f1 q x (by omega)
      · obtain ⟨b1, ⟨x, hx, e⟩, b3⟩ := f2 j q
        refine ⟨b1, ⟨x, by omega, e⟩, fun y hy a => ?_⟩
        by_cases z : y = i
        · subst z; exact absurd a c
        · exact b3 y (by omega) a
theorem ok_Ru_firstOf {s n : Nat} {mm : Nat → Nat} {k : Int32} (hd : 1 ≤ d) (hw : w_rc I V) (hv : Inv V) (hm : w_mn I mm n) (hg : w_ga V k mm n) (hs : s < am_n V 113 14) (h : R (some (.int (am_on (-9) (s_nxt V k (V 127 s) (am_n V 113 14))))) (am_mk I L, 0, 0)) : am_meth d 103 [.ref 99, .int (nI s)] (am_mk I L, 0, 0) R := by
  obtain ⟨d, rfl⟩ : ∃ e, d = e + 1 := ⟨d - 1, by omega⟩
  refine ar_in rfl rfl rfl (r_Rules_firstOfMineBehind_0 ?_)
  have e11 : I 68 = V 126 := hw.2.2.2.1
  have e12 : I 69 = V 127 := hw.2.2.2.2.1
  have hn2 := hv.1.2.2.2.1.2
  have hm2 := hm.2.1
  refine am_up (P := fun i => ∀ o : Option Nat, (o = none → ∀ x, x < i → V 126 (mm x) ≤ V 127 s) → (∀ j, o = some j → ¬ V 126 j ≤ V 127 s ∧ (∃ x, x < i ∧ mm x = j) ∧ ∀ y, y < i → ¬ V 126 (mm y) ≤ V 127 s → V 126 j ≤ V 126 (mm y)) → am_Run am_X0 (am_meth d) 103 R 5 [some (.ref 99), some (.int (nI s)), some (.int (am_on (-9) o)), some (.int (nI i))] [] (am_mk I L, 0, 0)) (n := n) (fun o f1 f2 => ?_) (fun i hi ih o f1 f2 => ?_) none (fun _ x hx => absurd hx (Nat.not_lt_zero x)) (fun j e => nomatch e)
  · refine r_Rules_firstOfMineBehind_5 ⟨fun c => absurd (hm.1 ▸ c) (nI_nlt (Nat.le_refl _) (by omega)), fun _ => ?_⟩
    have e : o = s_nxt V k (V 127 s) (am_n V 113 14) := by
      refine w_F_u hv ⟨fun q i hi a1 a2 => ?_, fun j q => ?_⟩ (w_F_nxt _)
      · obtain ⟨x, hx, e⟩ := hg.2.1 i hi a1 a2
        have := f1 q x hx
        rw [e] at this; exact this
      · obtain ⟨b1, ⟨x, hx, e⟩, b3⟩ := f2 j q
        have g := hg.1 x hx
        rw [e] at g
        refine ⟨g.1, g.2.1, g.2.2, b1, fun i hi a1 a2 a3 => ?_⟩
        obtain ⟨y, hy, e2⟩ := hg.2.1 i hi a1 a2
        have := b3 y hy
        rw [e2] at this
        exact this a3
    rw [e]; exact h
  · have w := hm.2.2 i hi
    refine r_Rules_firstOfMineBehind_5 ⟨fun _ => ⟨by omega, mm i, w.2, w.1, by omega, ?_⟩, fun c => absurd (by rw [hm.1]; exact nI_lt hi (by omega)) c⟩
    rw [e11, e12, w.1]
    have new : (∀ y, y < i → ¬ V 126 (mm y) ≤ V 127 s → V 126 (mm i) ≤ V 126 (mm y)) → ¬ V 126 (mm i) ≤ V 127 s → am_Run am_X0 (am_meth d) 103 R 5 [some (.ref 99), some (.int (nI s)), some (.int (nI (mm i))), some (.int (nI (i + 1)))] [] (am_mk I L, 0, 0) := fun g1 g2 => by
      refine ih (some (mm i)) (fun q => nomatch q) (fun j q => ?_)
      have e : mm i = j := by simpa using q
      subst e
      refine ⟨g2, ⟨i, by omega, rfl⟩, fun y hy a => ?_⟩
      by_cases x : y = i
      · subst x; exact Int32.le_refl _
      · exact g1 y (by omega) a
    refine ⟨fun c => ?_, fun c => ?_⟩
    · refine ih o (fun q x hx => ?_) (fun j q => ?_)
      · by_cases z : x = i
        · subst z; exact c
        · exact f1 q x (by omega)
      · obtain ⟨b1, ⟨x, hx, e⟩, b3⟩ := f2 j q
        refine ⟨b1, ⟨x, by omega, e⟩, fun y hy a => ?_⟩
        by_cases z : y = i
        · subst z; exact absurd c a
        · exact b3 y (by omega) a
    · cases o with
      | none => exact ⟨fun _ => new (fun y hy a => absurd (f1 rfl y hy) a) c, fun q => absurd rfl q⟩
      | some j =>
        obtain ⟨b1, ⟨x, hx, e⟩, b3⟩ := f2 j rfl
        have hj : j < 60 := by rw [← e]; exact (hm.2.2 x (by omega)).2
        refine ⟨fun q => absurd q (on_ne hj), fun _ => ⟨j, hj, rfl, fun c2 => ?_, fun c2 => ?_⟩⟩
        · refine new (fun y hy a => ?_) c
          have := b3 y hy a
          clear f1 f2 b3 ih new h hg; (simp (disch := omega) only [Int32.lt_iff_toInt_lt, Int32.le_iff_toInt_le, ← Int32.toInt_inj, Int32.reduceToInt, nI_toInt] at *; omega)
        · refine ih (some j) (fun q => nomatch q) (fun j' q => ?_)
          have e' : j = j' := by simpa using q
          subst e'
          refine ⟨b1, ⟨x, by omega, e⟩, fun y hy a => ?_⟩
          by_cases z : y = i
          · subst z; exact Int32.not_lt.mp c2
          · exact b3 y (by omega) a
/-- a way is too long for so many days -/
def s_far (V : am_V) (a b : Nat) (x : Int32) : Bool := decide (x < (V 115 (10 * a + b) + 23) / 24)
def s_tn (V : am_V) (s : Nat) : Nat := am_n V 122 (am_n V 125 s)
def s_lt1 (V : am_V) (k s : Nat) : Bool := match s_last V (nI k) (V 126 s) (am_n V 113 14) with
  | none => s_far V (am_n V 117 k) (s_tn V s) (V 126 s - V 113 0)
  | some p => s_far V (s_tn V p) (s_tn V s) (V 126 s - V 127 p)
def s_lt2 (V : am_V) (k s : Nat) : Bool := match s_nxt V (nI k) (V 127 s) (am_n V 113 14) with
  | none => false
  | some q => s_far V (s_tn V s) (s_tn V q) (V 126 q - V 127 s)
def s_late (V : am_V) (k s : Nat) : Bool := s_lt1 V k s || s_lt2 V k s
end LT
