/-! contracts of the leaf helpers -/
def am_rf (I : Nat → Nat → Int32) (j : Nat) : Nat → Nat → Int32 := va_up I 1 (upd (I 1) j (I 1 j + 1))
def am_no (I : Nat → Nat → Int32) (j : Nat) : Nat → Nat → Int32 := va_up I 156 (upd (I 156) j (I 156 j + 1))
/-- an entry as a natural number -/
def am_n (I : Nat → Nat → Int32) (c j : Nat) : Nat := (I c j).toNatClampNeg
def am_ix (I : Nat → Nat → Int32) (c j n : Nat) : Prop := I c j = nI (am_n I c j) ∧ am_n I c j < n
/-- how many of the days a .. b are f .. t's -/
def am_dw (f t a b : Int32) : Int32 := if ((if b < t then b else t) - (if f < a then a else f)) + 1 < 0 then 0 else ((if b < t then b else t) - (if f < a then a else f)) + 1
/-- a number more in a row: its object, its array -/
def am_ad (I : Nat → Nat → Int32) (o r : Nat) (x : Int32) : Nat → Nat → Int32 := va_up (va_up I o (upd (I o) 0 (I o 0 + 1))) r (upd (I r) (am_n I o 0) x)
def am_ka (I : Nat → Nat → Int32) (a b c e : Int32) : Nat → Nat → Int32 := va_up (va_up (va_up (va_up (va_up I 16 (upd (I 16) 0 (I 16 0 + 1))) 17 (upd (I 17) (am_n I 16 0) a)) 18 (upd (I 18) (am_n I 16 0) b)) 19 (upd (I 19) (am_n I 16 0) c)) 20 (upd (I 20) (am_n I 16 0) e)
def am_ha (I : Nat → Nat → Int32) (a b : Int32) : Nat → Nat → Int32 := va_up (va_up (va_up I 42 (upd (I 42) 0 (I 42 0 + 1))) 43 (upd (I 43) (am_n I 42 0) a)) 44 (upd (I 44) (am_n I 42 0) b)
def am_sa (I : Nat → Nat → Int32) (a b c : Int32) : Nat → Nat → Int32 := va_up (va_up (va_up (va_up I 66 (upd (I 66) 1 (I 66 1 + 1))) 67 (upd (I 67) (am_n I 66 1) a)) 68 (upd (I 68) (am_n I 66 1) b)) 69 (upd (I 69) (am_n I 66 1) c)
section OK1
variable {d : Nat} {R : am_R} {I : Nat → Nat → Int32} {L : Nat → Nat → Int64}
theorem ok_To_hasTown (hd : 1 ≤ d) {x : Int32} (h1 : 0 ≤ x ∧ x < 10 → R (some (.int 1)) (am_mk I L, 0, 0)) (h0 : ¬ (0 ≤ x ∧ x < 10) → R (some (.int 0)) (am_mk I L, 0, 0)) : am_meth d 146 [.ref 2, .int x] (am_mk I L, 0, 0) R := by
  obtain ⟨e, rfl⟩ : ∃ e, d = e + 1 := ⟨d - 1, by omega⟩
  refine ar_in rfl rfl rfl (r_Towns_hasTown_0 ⟨fun c => h0 ?_, fun c => ⟨fun c2 => h1 ?_, fun c2 => h0 ?_⟩⟩) <;>
  (simp only [Int32.lt_iff_toInt_lt, Int32.le_iff_toInt_le, Int32.reduceToInt] at *; omega)
theorem ok_To_hasLand (hd : 1 ≤ d) {x : Int32} (h1 : 0 ≤ x ∧ x < 5 → R (some (.int 1)) (am_mk I L, 0, 0)) (h0 : ¬ (0 ≤ x ∧ x < 5) → R (some (.int 0)) (am_mk I L, 0, 0)) : am_meth d 147 [.ref 2, .int x] (am_mk I L, 0, 0) R := by
  obtain ⟨e, rfl⟩ : ∃ e, d = e + 1 := ⟨d - 1, by omega⟩
  refine ar_in rfl rfl rfl (r_Towns_hasLand_0 ⟨fun c => h0 ?_, fun c => ⟨fun c2 => h1 ?_, fun c2 => h0 ?_⟩⟩) <;>
  (simp only [Int32.lt_iff_toInt_lt, Int32.le_iff_toInt_le, Int32.reduceToInt] at *; omega)
theorem ok_Ke_has (hd : 1 ≤ d) {x : Int32} (h1 : 0 ≤ x ∧ x < I 16 0 → R (some (.int 1)) (am_mk I L, 0, 0)) (h0 : ¬ (0 ≤ x ∧ x < I 16 0) → R (some (.int 0)) (am_mk I L, 0, 0)) : am_meth d 54 [.ref 16, .int x] (am_mk I L, 0, 0) R := by
  obtain ⟨e, rfl⟩ : ∃ e, d = e + 1 := ⟨d - 1, by omega⟩
  refine ar_in rfl rfl rfl (r_Keepers_has_0 ⟨fun c => h0 ?_, fun c => ⟨fun c2 => h1 ?_, fun c2 => h0 ?_⟩⟩) <;>
  (simp only [Int32.lt_iff_toInt_lt, Int32.le_iff_toInt_le, Int32.reduceToInt] at *; omega)
theorem ok_Ho_has (hd : 1 ≤ d) {x : Int32} (h1 : 0 ≤ x ∧ x < I 42 0 → R (some (.int 1)) (am_mk I L, 0, 0)) (h0 : ¬ (0 ≤ x ∧ x < I 42 0) → R (some (.int 0)) (am_mk I L, 0, 0)) : am_meth d 50 [.ref 42, .int x] (am_mk I L, 0, 0) R := by
  obtain ⟨e, rfl⟩ : ∃ e, d = e + 1 := ⟨d - 1, by omega⟩
  refine ar_in rfl rfl rfl (r_Houses_has_0 ⟨fun c => h0 ?_, fun c => ⟨fun c2 => h1 ?_, fun c2 => h0 ?_⟩⟩) <;>
  (simp only [Int32.lt_iff_toInt_lt, Int32.le_iff_toInt_le, Int32.reduceToInt] at *; omega)
theorem ok_St_has (hd : 1 ≤ d) {x : Int32} (h1 : 0 ≤ x ∧ x < I 66 1 → R (some (.int 1)) (am_mk I L, 0, 0)) (h0 : ¬ (0 ≤ x ∧ x < I 66 1) → R (some (.int 0)) (am_mk I L, 0, 0)) : am_meth d 118 [.ref 66, .int x] (am_mk I L, 0, 0) R := by
  obtain ⟨e, rfl⟩ : ∃ e, d = e + 1 := ⟨d - 1, by omega⟩
  refine ar_in rfl rfl rfl (r_Stays_has_0 ⟨fun c => h0 ?_, fun c => ⟨fun c2 => h1 ?_, fun c2 => h0 ?_⟩⟩) <;>
  (simp only [Int32.lt_iff_toInt_lt, Int32.le_iff_toInt_le, Int32.reduceToInt] at *; omega)
theorem ok_M_isTown (hd : 1 ≤ d) {x : Int32} (h1 : 0 ≤ x ∧ x < 10 → R (some (.int 1)) (am_mk I L, 0, 0)) (h0 : ¬ (0 ≤ x ∧ x < 10) → R (some (.int 0)) (am_mk I L, 0, 0)) : am_meth d 153 [.ref 113, .int x] (am_mk I L, 0, 0) R := by
  obtain ⟨e, rfl⟩ : ∃ e, d = e + 1 := ⟨d - 1, by omega⟩
  refine ar_in rfl rfl rfl (r_M_isTown_0 ⟨fun c => h0 ?_, fun c => ⟨fun c2 => h1 ?_, fun c2 => h0 ?_⟩⟩) <;>
  (simp only [Int32.lt_iff_toInt_lt, Int32.le_iff_toInt_le, Int32.reduceToInt] at *; omega)
theorem ok_M_isKeeper (hd : 1 ≤ d) {x : Int32} (h1 : 0 ≤ x ∧ x < I 113 4 → R (some (.int 1)) (am_mk I L, 0, 0)) (h0 : ¬ (0 ≤ x ∧ x < I 113 4) → R (some (.int 0)) (am_mk I L, 0, 0)) : am_meth d 164 [.ref 113, .int x] (am_mk I L, 0, 0) R := by
  obtain ⟨e, rfl⟩ : ∃ e, d = e + 1 := ⟨d - 1, by omega⟩
  refine ar_in rfl rfl rfl (r_M_isKeeper_0 ⟨fun c => h0 ?_, fun c => ⟨fun c2 => h1 ?_, fun c2 => h0 ?_⟩⟩) <;>
  (simp only [Int32.lt_iff_toInt_lt, Int32.le_iff_toInt_le, Int32.reduceToInt] at *; omega)
theorem ok_M_isHouse (hd : 1 ≤ d) {x : Int32} (h1 : 0 ≤ x ∧ x < I 113 10 → R (some (.int 1)) (am_mk I L, 0, 0)) (h0 : ¬ (0 ≤ x ∧ x < I 113 10) → R (some (.int 0)) (am_mk I L, 0, 0)) : am_meth d 159 [.ref 113, .int x] (am_mk I L, 0, 0) R := by
  obtain ⟨e, rfl⟩ : ∃ e, d = e + 1 := ⟨d - 1, by omega⟩
  refine ar_in rfl rfl rfl (r_M_isHouse_0 ⟨fun c => h0 ?_, fun c => ⟨fun c2 => h1 ?_, fun c2 => h0 ?_⟩⟩) <;>
  (simp only [Int32.lt_iff_toInt_lt, Int32.le_iff_toInt_le, Int32.reduceToInt] at *; omega)
theorem ok_M_isStay (hd : 1 ≤ d) {x : Int32} (h1 : 0 ≤ x ∧ x < I 113 14 → R (some (.int 1)) (am_mk I L, 0, 0)) (h0 : ¬ (0 ≤ x ∧ x < I 113 14) → R (some (.int 0)) (am_mk I L, 0, 0)) : am_meth d 161 [.ref 113, .int x] (am_mk I L, 0, 0) R := by
  obtain ⟨e, rfl⟩ : ∃ e, d = e + 1 := ⟨d - 1, by omega⟩
  refine ar_in rfl rfl rfl (r_M_isStay_0 ⟨fun c => h0 ?_, fun c => ⟨fun c2 => h1 ?_, fun c2 => h0 ?_⟩⟩) <;>
  (simp only [Int32.lt_iff_toInt_lt, Int32.le_iff_toInt_le, Int32.reduceToInt] at *; omega)
theorem ok_refuse (hd : 1 ≤ d) {x : Int32} {j : Nat} (hx : -x = nI j) (hj : j < 7) (h : R (some (.int x)) (am_mk (am_rf I j) L, 0, 0)) : am_meth d 2 [.ref 0, .int x] (am_mk I L, 0, 0) R := by
  obtain ⟨e, rfl⟩ : ∃ e, d = e + 1 := ⟨d - 1, by omega⟩
  refine ar_in rfl rfl rfl (r_H_refuse_0 ⟨fun c => ?_, fun c => ⟨fun c2 => ⟨j, hj, hx, ?_⟩, fun c2 => ?_⟩⟩)
  · rw [hx] at c; exact absurd c (nI_pos (by omega))
  · rintro _ rfl
    exact h
  · rw [hx] at c2; exact absurd (nI_lt (a := j) (b := 7) hj (by decide)) c2
theorem ok_no (hd : 1 ≤ d) {x : Int32} {j : Nat} (hx : -x = nI j) (hj : j < 7) (h : R (some (.int x)) (am_mk (am_no I j) L, 0, 0)) : am_meth d 151 [.ref 113, .int x] (am_mk I L, 0, 0) R := by
  obtain ⟨e, rfl⟩ : ∃ e, d = e + 1 := ⟨d - 1, by omega⟩
  refine ar_in rfl rfl rfl (r_M_no_0 ⟨j, hj, hx, ?_⟩)
  rintro _ rfl
  exact h
theorem ok_refuseBeyond (hd : 2 ≤ d) {x : Int32} {j : Nat} (hx : -x = nI j) (hj : j < 7) (h : R (some (.int (1000000000 - x))) (am_mk (am_rf I j) L, 0, 0)) : am_meth d 18 [.ref 0, .int x] (am_mk I L, 0, 0) R := by
  obtain ⟨e, rfl⟩ : ∃ e, d = e + 1 := ⟨d - 1, by omega⟩
  exact ar_in rfl rfl rfl (r_H_refuseBeyond_0 (ok_refuse (by omega) hx hj ⟨_, _, _, rfl, rfl, h⟩))
theorem ok_far (hd : 2 ≤ d) {x : Int32} {j : Nat} (hx : -x = nI j) (hj : j < 7) (h : R (some (.int (1000000000 - x))) (am_mk (am_no I j) L, 0, 0)) : am_meth d 199 [.ref 113, .int x] (am_mk I L, 0, 0) R := by
  obtain ⟨e, rfl⟩ : ∃ e, d = e + 1 := ⟨d - 1, by omega⟩
  exact ar_in rfl rfl rfl (r_M_far_0 (ok_no (by omega) hx hj ⟨_, _, _, rfl, rfl, h⟩))
theorem ok_bound (hd : 1 ≤ d) {x lo hi : Int32} (h1 : x < lo → R (some (.int (-4))) (am_mk I L, 0, 0)) (h2 : (¬ x < lo ∧ hi < x) → R (some (.int (-6))) (am_mk I L, 0, 0)) (h3 : (¬ x < lo ∧ ¬ hi < x) → R (some (.int 0)) (am_mk I L, 0, 0)) : am_meth d 5 [.int x, .int lo, .int hi] (am_mk I L, 0, 0) R := by
  obtain ⟨e, rfl⟩ : ∃ e, d = e + 1 := ⟨d - 1, by omega⟩
  refine ar_in rfl rfl rfl (r_H_boundRefusal_0 ⟨fun c => h1 c, fun c => ⟨fun c2 => h3 ⟨?_, ?_⟩, fun c2 => h2 ⟨?_, ?_⟩⟩⟩) <;>
  (simp only [Int32.lt_iff_toInt_lt, Int32.le_iff_toInt_le, Int32.reduceToInt] at *; omega)
theorem ok_St_isOver (hd : 1 ≤ d) {x : Int32} {s : Nat} (hx : x = nI s) (hs : s < 60) (h1 : I 69 s < I 66 0 → R (some (.int 1)) (am_mk I L, 0, 0)) (h0 : ¬ (I 69 s < I 66 0) → R (some (.int 0)) (am_mk I L, 0, 0)) : am_meth d 119 [.ref 66, .int x] (am_mk I L, 0, 0) R := by
  obtain ⟨e, rfl⟩ : ∃ e, d = e + 1 := ⟨d - 1, by omega⟩
  subst hx
  exact ar_in rfl rfl rfl (r_Stays_isOver_0 ⟨hs, fun c => h1 c, fun c => h0 c⟩)
theorem ok_St_isTakenBy (hd : 1 ≤ d) {x w : Int32} {s : Nat} (hx : x = nI s) (hs : s < 60) (h1 : I 70 s = 1 ∧ I 71 s = w → R (some (.int 1)) (am_mk I L, 0, 0)) (h0 : ¬ (I 70 s = 1 ∧ I 71 s = w) → R (some (.int 0)) (am_mk I L, 0, 0)) : am_meth d 120 [.ref 66, .int x, .int w] (am_mk I L, 0, 0) R := by
  obtain ⟨e, rfl⟩ : ∃ e, d = e + 1 := ⟨d - 1, by omega⟩
  subst hx
  exact ar_in rfl rfl rfl (r_Stays_isTakenBy_0 ⟨hs, fun c => ⟨fun c2 => h1 ⟨c, c2⟩, fun c2 => h0 (fun q => c2 q.2)⟩, fun c => h0 (fun q => c q.1)⟩)
theorem ok_St_hasBothLists (hd : 1 ≤ d) {x : Int32} {s : Nat} (hx : x = nI s) (hs : s < 60) (h1 : ¬ I 72 s = -1 ∧ ¬ I 73 s = -1 → R (some (.int 1)) (am_mk I L, 0, 0)) (h0 : ¬ (¬ I 72 s = -1 ∧ ¬ I 73 s = -1) → R (some (.int 0)) (am_mk I L, 0, 0)) : am_meth d 122 [.ref 66, .int x] (am_mk I L, 0, 0) R := by
  obtain ⟨e, rfl⟩ : ∃ e, d = e + 1 := ⟨d - 1, by omega⟩
  subst hx
  exact ar_in rfl rfl rfl (r_Stays_hasBothLists_0 ⟨hs, fun c => h0 (fun q => q.1 c), fun c => ⟨fun c2 => h0 (fun q => q.2 c2), fun c2 => h1 ⟨c, c2⟩⟩⟩)
theorem ok_St_lengthOf (hd : 1 ≤ d) {x : Int32} {s : Nat} (hx : x = nI s) (hs : s < 60) (h : R (some (.int (I 69 s - I 68 s + 1))) (am_mk I L, 0, 0)) : am_meth d 121 [.ref 66, .int x] (am_mk I L, 0, 0) R := by
  obtain ⟨e, rfl⟩ : ∃ e, d = e + 1 := ⟨d - 1, by omega⟩
  subst hx
  exact ar_in rfl rfl rfl (r_Stays_lengthOf_0 ⟨hs, h⟩)
theorem ok_St_itemsGone (hd : 1 ≤ d) {x : Int32} {s : Nat} (hx : x = nI s) (hs : s < 60) (h : R (some (.int (I 72 s &&& (I 73 s ^^^ -1)))) (am_mk I L, 0, 0)) : am_meth d 123 [.ref 66, .int x] (am_mk I L, 0, 0) R := by
  obtain ⟨e, rfl⟩ : ∃ e, d = e + 1 := ⟨d - 1, by omega⟩
  subst hx
  exact ar_in rfl rfl rfl (r_Stays_itemsGone_0 ⟨hs, h⟩)
theorem ok_St_daysWithin (hd : 2 ≤ d) {x a b : Int32} {s : Nat} (hx : x = nI s) (hs : s < 60) (h : R (some (.int (am_dw (I 68 s) (I 69 s) a b))) (am_mk I L, 0, 0)) : am_meth d 116 [.ref 66, .int x, .int a, .int b] (am_mk I L, 0, 0) R := by
  obtain ⟨e, rfl⟩ : ∃ e, d = e + 1 := ⟨d - 1, by omega⟩
  subst hx
  exact ar_in rfl rfl rfl (r_Stays_daysWithin_0 (by omega) ⟨hs, h⟩)
theorem ok_To_daysBetween (hd : 1 ≤ d) {x y : Int32} {a b : Nat} (hx : x = nI a) (hy : y = nI b) (ha : a < 10) (hb : b < 10) (h : R (some (.int ((I (6 + a) b + 23) / 24))) (am_mk I L, 0, 0)) : am_meth d 148 [.ref 2, .int x, .int y] (am_mk I L, 0, 0) R := by
  obtain ⟨e, rfl⟩ : ∃ e, d = e + 1 := ⟨d - 1, by omega⟩
  subst hx; subst hy
  exact ar_in rfl rfl rfl (r_Towns_daysBetween_0 ⟨ha, hb, h⟩)
theorem ok_Ro_hasRoomFor_tape (hd : 1 ≤ d) {x : Int32} (h1 : x ≤ 60 - I 91 0 → R (some (.int 1)) (am_mk I L, 0, 0)) (h0 : ¬ (x ≤ 60 - I 91 0) → R (some (.int 0)) (am_mk I L, 0, 0)) : am_meth d 86 [.ref 91, .int x] (am_mk I L, 0, 0) R := by
  obtain ⟨e, rfl⟩ : ∃ e, d = e + 1 := ⟨d - 1, by omega⟩
  exact ar_in rfl rfl rfl (r_Row_hasRoomFor_tape_0 ⟨fun c => h1 c, fun c => h0 c⟩)
theorem ok_Ro_add_tape (hd : 1 ≤ d) {x : Int32} (hp : am_ix I 91 0 60) (h : R none (am_mk (am_ad I 91 92 x) L, 0, 0)) : am_meth d 87 [.ref 91, .int x] (am_mk I L, 0, 0) R := by
  obtain ⟨e, rfl⟩ : ∃ e, d = e + 1 := ⟨d - 1, by omega⟩
  refine ar_in rfl rfl rfl (r_Row_add_tape_0 ⟨fun c => ?_, fun c => ?_⟩)
  · rintro _ rfl
    refine ⟨_, hp.2, hp.1, ?_⟩
    rintro _ rfl
    exact h
  · rw [hp.1] at c; exact absurd (nI_lt (a := am_n I 91 0) (b := 60) hp.2 (by decide)) c
theorem ok_Ro_clear_tape (hd : 1 ≤ d) (h : R none (am_mk (va_up I 91 (upd (I 91) 0 0)) L, 0, 0)) : am_meth d 89 [.ref 91] (am_mk I L, 0, 0) R := by
  obtain ⟨e, rfl⟩ : ∃ e, d = e + 1 := ⟨d - 1, by omega⟩
  refine ar_in rfl rfl rfl (r_Row_clear_tape_0 ?_)
  rintro _ rfl
  exact h
theorem ok_Ro_at_tape (hd : 1 ≤ d) {x : Int32} {j : Nat} (hx : x = nI j) (hj : j < 60) (hz : nI j < I 91 0) (h : R (some (.int (I 92 j))) (am_mk I L, 0, 0)) : am_meth d 88 [.ref 91, .int x] (am_mk I L, 0, 0) R := by
  obtain ⟨e, rfl⟩ : ∃ e, d = e + 1 := ⟨d - 1, by omega⟩
  subst hx
  refine ar_in rfl rfl rfl (r_Row_at_tape_0 ⟨fun c => absurd c (nI_pos (by omega)), fun c => ⟨fun c2 => ⟨j, hj, rfl, h⟩, fun c2 => absurd hz c2⟩⟩)
theorem ok_Ro_hasRoomFor_row (hd : 1 ≤ d) {x : Int32} (h1 : x ≤ 12 - I 95 0 → R (some (.int 1)) (am_mk I L, 0, 0)) (h0 : ¬ (x ≤ 12 - I 95 0) → R (some (.int 0)) (am_mk I L, 0, 0)) : am_meth d 86 [.ref 95, .int x] (am_mk I L, 0, 0) R := by
  obtain ⟨e, rfl⟩ : ∃ e, d = e + 1 := ⟨d - 1, by omega⟩
  exact ar_in rfl rfl rfl (r_Row_hasRoomFor_row_0 ⟨fun c => h1 c, fun c => h0 c⟩)
theorem ok_Ro_add_row (hd : 1 ≤ d) {x : Int32} (hp : am_ix I 95 0 12) (h : R none (am_mk (am_ad I 95 96 x) L, 0, 0)) : am_meth d 87 [.ref 95, .int x] (am_mk I L, 0, 0) R := by
  obtain ⟨e, rfl⟩ : ∃ e, d = e + 1 := ⟨d - 1, by omega⟩
  refine ar_in rfl rfl rfl (r_Row_add_row_0 ⟨fun c => ?_, fun c => ?_⟩)
  · rintro _ rfl
    refine ⟨_, hp.2, hp.1, ?_⟩
    rintro _ rfl
    exact h
  · rw [hp.1] at c; exact absurd (nI_lt (a := am_n I 95 0) (b := 12) hp.2 (by decide)) c
theorem ok_Ro_clear_row (hd : 1 ≤ d) (h : R none (am_mk (va_up I 95 (upd (I 95) 0 0)) L, 0, 0)) : am_meth d 89 [.ref 95] (am_mk I L, 0, 0) R := by
  obtain ⟨e, rfl⟩ : ∃ e, d = e + 1 := ⟨d - 1, by omega⟩
  refine ar_in rfl rfl rfl (r_Row_clear_row_0 ?_)
  rintro _ rfl
  exact h
theorem ok_Ro_at_row (hd : 1 ≤ d) {x : Int32} {j : Nat} (hx : x = nI j) (hj : j < 12) (hz : nI j < I 95 0) (h : R (some (.int (I 96 j))) (am_mk I L, 0, 0)) : am_meth d 88 [.ref 95, .int x] (am_mk I L, 0, 0) R := by
  obtain ⟨e, rfl⟩ : ∃ e, d = e + 1 := ⟨d - 1, by omega⟩
  subst hx
  refine ar_in rfl rfl rfl (r_Row_at_row_0 ⟨fun c => absurd c (nI_pos (by omega)), fun c => ⟨fun c2 => ⟨j, hj, rfl, h⟩, fun c2 => absurd hz c2⟩⟩)
theorem ok_Ro_hasRoomFor_told (hd : 1 ≤ d) {x : Int32} (h1 : x ≤ 6 - I 97 0 → R (some (.int 1)) (am_mk I L, 0, 0)) (h0 : ¬ (x ≤ 6 - I 97 0) → R (some (.int 0)) (am_mk I L, 0, 0)) : am_meth d 86 [.ref 97, .int x] (am_mk I L, 0, 0) R := by
  obtain ⟨e, rfl⟩ : ∃ e, d = e + 1 := ⟨d - 1, by omega⟩
  exact ar_in rfl rfl rfl (r_Row_hasRoomFor_told_0 ⟨fun c => h1 c, fun c => h0 c⟩)
theorem ok_Ro_add_told (hd : 1 ≤ d) {x : Int32} (hp : am_ix I 97 0 6) (h : R none (am_mk (am_ad I 97 98 x) L, 0, 0)) : am_meth d 87 [.ref 97, .int x] (am_mk I L, 0, 0) R := by
  obtain ⟨e, rfl⟩ : ∃ e, d = e + 1 := ⟨d - 1, by omega⟩
  refine ar_in rfl rfl rfl (r_Row_add_told_0 ⟨fun c => ?_, fun c => ?_⟩)
  · rintro _ rfl
    refine ⟨_, hp.2, hp.1, ?_⟩
    rintro _ rfl
    exact h
  · rw [hp.1] at c; exact absurd (nI_lt (a := am_n I 97 0) (b := 6) hp.2 (by decide)) c
theorem ok_Ro_clear_told (hd : 1 ≤ d) (h : R none (am_mk (va_up I 97 (upd (I 97) 0 0)) L, 0, 0)) : am_meth d 89 [.ref 97] (am_mk I L, 0, 0) R := by
  obtain ⟨e, rfl⟩ : ∃ e, d = e + 1 := ⟨d - 1, by omega⟩
  refine ar_in rfl rfl rfl (r_Row_clear_told_0 ?_)
  rintro _ rfl
  exact h
theorem ok_Ro_at_told (hd : 1 ≤ d) {x : Int32} {j : Nat} (hx : x = nI j) (hj : j < 6) (hz : nI j < I 97 0) (h : R (some (.int (I 98 j))) (am_mk I L, 0, 0)) : am_meth d 88 [.ref 97, .int x] (am_mk I L, 0, 0) R := by
  obtain ⟨e, rfl⟩ : ∃ e, d = e + 1 := ⟨d - 1, by omega⟩
  subst hx
  refine ar_in rfl rfl rfl (r_Row_at_told_0 ⟨fun c => absurd c (nI_pos (by omega)), fun c => ⟨fun c2 => ⟨j, hj, rfl, h⟩, fun c2 => absurd hz c2⟩⟩)
theorem ok_M_isOver (hd : 1 ≤ d) {x : Int32} {s : Nat} (hx : x = nI s) (hs : s < 60) (h1 : I 127 s < I 113 0 → R (some (.int 1)) (am_mk I L, 0, 0)) (h0 : ¬ (I 127 s < I 113 0) → R (some (.int 0)) (am_mk I L, 0, 0)) : am_meth d 162 [.ref 113, .int x] (am_mk I L, 0, 0) R := by
  obtain ⟨e, rfl⟩ : ∃ e, d = e + 1 := ⟨d - 1, by omega⟩
  subst hx
  exact ar_in rfl rfl rfl (r_M_isOver_0 ⟨hs, fun c => h1 c, fun c => h0 c⟩)
theorem ok_M_has (hd : 1 ≤ d) {x w : Int32} {s : Nat} (hx : x = nI s) (hs : s < 60) (h1 : I 128 s = 1 ∧ I 129 s = w → R (some (.int 1)) (am_mk I L, 0, 0)) (h0 : ¬ (I 128 s = 1 ∧ I 129 s = w) → R (some (.int 0)) (am_mk I L, 0, 0)) : am_meth d 167 [.ref 113, .int w, .int x] (am_mk I L, 0, 0) R := by
  obtain ⟨e, rfl⟩ : ∃ e, d = e + 1 := ⟨d - 1, by omega⟩
  subst hx
  exact ar_in rfl rfl rfl (r_M_has_0 ⟨hs, fun c => ⟨fun c2 => h1 ⟨c, c2⟩, fun c2 => h0 (fun q => c2 q.2)⟩, fun c => h0 (fun q => c q.1)⟩)
theorem am_10 {a b : Nat} : 10 * nI a + nI b = nI (10 * a + b) := by rw [show (10 : Int32) = nI 10 from rfl, pk_mul, nI_add]
theorem am_2s {a : Nat} : 2 * nI a = nI (2 * a) := by rw [show (2 : Int32) = nI 2 from rfl, pk_mul]
theorem am_2s1 {a : Nat} : 2 * nI a + 1 = nI (2 * a + 1) := by rw [am_2s, nI_1]
theorem ok_M_isFar (hd : 1 ≤ d) {x y z : Int32} {a b : Nat} (hx : x = nI a) (hy : y = nI b) (ha : a < 10) (hb : b < 10) (h1 : z < (I 115 (10 * a + b) + 23) / 24 → R (some (.int 1)) (am_mk I L, 0, 0)) (h0 : ¬ (z < (I 115 (10 * a + b) + 23) / 24) → R (some (.int 0)) (am_mk I L, 0, 0)) : am_meth d 170 [.ref 113, .int x, .int y, .int z] (am_mk I L, 0, 0) R := by
  obtain ⟨e, rfl⟩ : ∃ e, d = e + 1 := ⟨d - 1, by omega⟩
  subst hx; subst hy
  exact ar_in rfl rfl rfl (r_M_isFar_0 ⟨10 * a + b, by omega, am_10, fun c => h1 c, fun c => h0 c⟩)
theorem ok_M_townOf (hd : 1 ≤ d) {x : Int32} {s : Nat} (hx : x = nI s) (hs : s < 60) (hp : am_ix I 125 s 20) (h : R (some (.int (I 122 (am_n I 125 s)))) (am_mk I L, 0, 0)) : am_meth d 169 [.ref 113, .int x] (am_mk I L, 0, 0) R := by
  obtain ⟨e, rfl⟩ : ∃ e, d = e + 1 := ⟨d - 1, by omega⟩
  subst hx
  exact ar_in rfl rfl rfl (r_M_townOf_0 ⟨hs, _, hp.2, hp.1, h⟩)
theorem ok_M_goneOf (hd : 1 ≤ d) {x : Int32} {s : Nat} (hx : x = nI s) (hs : s < 60) (h1 : (I 132 (2 * s) < 0 ∨ I 132 (2 * s + 1) < 0) → R (some (.int (-9))) (am_mk I L, 0, 0)) (h2 : ¬ (I 132 (2 * s) < 0 ∨ I 132 (2 * s + 1) < 0) → R (some (.int (I 132 (2 * s) &&& (I 132 (2 * s + 1) ^^^ -1)))) (am_mk I L, 0, 0)) : am_meth d 237 [.ref 113, .int x] (am_mk I L, 0, 0) R := by
  obtain ⟨e, rfl⟩ : ∃ e, d = e + 1 := ⟨d - 1, by omega⟩
  subst hx
  refine ar_in rfl rfl rfl (r_M_goneOf_0 ⟨2 * s, by omega, am_2s, fun c => h1 (Or.inl c), fun c => ⟨2 * s + 1, by omega, am_2s1, fun c2 => h1 (Or.inr c2), fun c2 => h2 (fun q => ?_)⟩⟩)
  rcases q with q | q
  · exact c q
  · exact c2 q
theorem ok_Ke_add (hd : 1 ≤ d) {a b c e : Int32} (hp : am_ix I 16 0 20) (h : R (some (.int (I 16 0))) (am_mk (am_ka I a b c e) L, 0, 0)) : am_meth d 53 [.ref 16, .int a, .int b, .int c, .int e] (am_mk I L, 0, 0) R := by
  obtain ⟨e, rfl⟩ : ∃ e, d = e + 1 := ⟨d - 1, by omega⟩
  refine ar_in rfl rfl rfl (r_Keepers_add_0 ?_)
  rintro _ rfl
  refine ⟨_, hp.2, hp.1, ?_⟩
  rintro _ rfl _ rfl _ rfl _ rfl
  exact h
theorem ok_Ho_add (hd : 1 ≤ d) {a b : Int32} (hp : am_ix I 42 0 20) (h : R (some (.int (I 42 0))) (am_mk (am_ha I a b) L, 0, 0)) : am_meth d 49 [.ref 42, .int a, .int b] (am_mk I L, 0, 0) R := by
  obtain ⟨e, rfl⟩ : ∃ e, d = e + 1 := ⟨d - 1, by omega⟩
  refine ar_in rfl rfl rfl (r_Houses_add_0 ?_)
  rintro _ rfl
  refine ⟨_, hp.2, hp.1, ?_⟩
  rintro _ rfl _ rfl
  exact h
theorem ok_St_add (hd : 1 ≤ d) {a b c : Int32} (hp : am_ix I 66 1 60) (h : R (some (.int (I 66 1))) (am_mk (am_sa I a b c) L, 0, 0)) : am_meth d 117 [.ref 66, .int a, .int b, .int c] (am_mk I L, 0, 0) R := by
  obtain ⟨e, rfl⟩ : ∃ e, d = e + 1 := ⟨d - 1, by omega⟩
  refine ar_in rfl rfl rfl (r_Stays_add_0 ?_)
  rintro _ rfl
  refine ⟨_, hp.2, hp.1, ?_⟩
  rintro _ rfl _ rfl _ rfl
  exact h
end OK1
