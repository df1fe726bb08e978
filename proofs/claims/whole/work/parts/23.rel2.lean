/-! THE CLASS'S CELLS AND THE REFERENCE'S: what the one's are against the other's (between two calls), and what they may be. I c j: cell c, place j.
class: 1 refusals, 3 land, 4 limit, 6+a hours, 16.0 keepers, 17 .. 20 their town, beasts, persons, marks, 22+k wish, 42.0 houses, 43 town, 44 beasts, 46+h look, 66.0 now, 66.1 stays, 67 .. 73 house, from, to, state, keeper, before, after, 74.0 reviews, 74.8 the day of 75 hand, 76 trust, 77 known; 79, 80 stars, 82, 83 told on; 85.0 terms, 86 house, 87 day, 88 size, 89 steps; 91.0, 92 tape; 95.0, 96 row; 97.0, 98 told
reference: 113.0 today, .4 keepers, .10 houses, .14 stays, .24 taped, .25 terms, .39 row, .41 told; 114 landOf, 115 hours, 116 limitOf, 117 .. 120 ke.., 121 wishOf, 122, 123 ho.., 124 lookOf, 125 .. 129 s.., 130 stars, 131 starsDay, 132 items, 133 tape, 134 .. 137 t.., 146 row, 147 told, 156 refusals -/
/-- a review counts as known on k -/
def s_ct (I : Nat → Nat → Int32) (s side : Nat) (k : Int32) : Bool := !(decide (I 130 (2 * s + side) = 0)) && !(decide (k < I 131 (2 * s + side))) && ((decide (0 < I 130 (2 * s + (1 - side))) && decide (I 131 (2 * s + (1 - side)) ≤ k)) || decide (I 127 s + 14 < k))
def s_hn (I : Nat → Nat → Int32) (h k : Int32) : Nat → Int32
  | 0 => 0
  | s + 1 => if I 125 s = h ∧ s_ct I s 0 k = true then s_hn I h k s + 1 else s_hn I h k s
def s_hs (I : Nat → Nat → Int32) (h k : Int32) : Nat → Int32
  | 0 => 0
  | s + 1 => if I 125 s = h ∧ s_ct I s 0 k = true then s_hs I h k s + I 130 (2 * s) else s_hs I h k s
/-- HAND of a house as known on k, with n stays -/
def s_hand (I : Nat → Nat → Int32) (n : Nat) (h k : Int32) : Int32 := if s_hn I h k n = 0 then 300 else 100 * s_hs I h k n / s_hn I h k n
def s_kn (I : Nat → Nat → Int32) (w k : Int32) : Nat → Int32
  | 0 => 0
  | s + 1 => if I 129 s = w ∧ s_ct I s 0 k = true then s_kn I w k s + 1 else s_kn I w k s
def s_ts (I : Nat → Nat → Int32) (n : Nat) (w k : Int32) : Nat → Int32
  | 0 => 0
  | s + 1 => if I 129 s = w ∧ s_ct I s 0 k = true then s_ts I n w k s + (100 * I 130 (2 * s) - s_hand I n (I 125 s) k) else s_ts I n w k s
/-- TRUST of a keeper as known on k -/
def s_trust (I : Nat → Nat → Int32) (n : Nat) (w k : Int32) : Int32 := s_ts I n w k n / (s_kn I w k n + 1)
/-- how many of the first n reviews are told -/
def s_rv (I : Nat → Nat → Int32) : Nat → Int32
  | 0 => 0
  | r + 1 => if 0 < I 130 r then s_rv I r + 1 else s_rv I r
def Rn (I : Nat → Nat → Int32) (nk nh ns nt : Nat) : Prop := nk ≤ 20 ∧ nh ≤ 20 ∧ ns ≤ 60 ∧ nt ≤ 30 ∧ I 16 0 = nI nk ∧ I 113 4 = nI nk ∧ I 42 0 = nI nh ∧ I 113 10 = nI nh ∧ I 66 1 = nI ns ∧ I 113 14 = nI ns ∧ I 85 0 = nI nt ∧ I 113 25 = nI nt
def Rd (I : Nat → Nat → Int32) (now : Nat) : Prop := now ≤ 1500 ∧ I 66 0 = nI now ∧ I 113 0 = nI now
def Rf (I : Nat → Nat → Int32) : Prop := ∀ j, j < 7 → I 1 j = I 156 j
def Rt (I : Nat → Nat → Int32) : Prop := (∀ t, t < 10 → I 3 t = I 114 t ∧ ∃ l, l < 5 ∧ I 114 t = nI l) ∧ (∀ l, l < 5 → I 4 l = I 116 l ∧ ∃ x, x ≤ 180 ∧ I 116 l = nI x) ∧ (∀ a b, a < 10 → b < 10 → I (6 + a) b = I 115 (10 * a + b) ∧ ∃ x, x ≤ 240 ∧ I 115 (10 * a + b) = nI x)
def Rk (I : Nat → Nat → Int32) (nk : Nat) : Prop := (∀ k, k < nk → I 17 k = I 117 k ∧ I 18 k = I 118 k ∧ I 19 k = I 119 k ∧ I 20 k = I 120 k ∧ (∃ t, t < 10 ∧ I 117 k = nI t) ∧ (∃ x, x < 256 ∧ I 118 k = nI x) ∧ ∃ x, x < 100000 ∧ I 120 k = nI x) ∧ ∀ k l, k < 20 → l < 5 → I (22 + k) l = I 121 (5 * k + l)
def Rh (I : Nat → Nat → Int32) (nh : Nat) : Prop := (∀ h, h < nh → I 43 h = I 122 h ∧ I 44 h = I 123 h ∧ (∃ t, t < 10 ∧ I 122 h = nI t) ∧ ∃ x, x < 256 ∧ I 123 h = nI x) ∧ ∀ h i, h < 20 → i < 31 → I (46 + h) i = I 124 (31 * h + i)
def Rs (I : Nat → Nat → Int32) (nk nh ns : Nat) : Prop := (∀ s, s < ns → I 67 s = I 125 s ∧ I 68 s = I 126 s ∧ I 69 s = I 127 s ∧ I 70 s = I 128 s ∧ I 71 s = I 129 s ∧ (∃ h, h < nh ∧ I 125 s = nI h) ∧ (∃ f t, 1 ≤ f ∧ f ≤ t ∧ t ≤ 1500 ∧ I 126 s = nI f ∧ I 127 s = nI t) ∧ ((I 128 s = 0 ∧ I 129 s = -9) ∨ (I 128 s = 1 ∧ ∃ k, k < nk ∧ I 129 s = nI k) ∨ (I 128 s = 2 ∧ (I 129 s = -9 ∨ ∃ k, k < nk ∧ I 129 s = nI k)))) ∧
  (∀ s, ns ≤ s → s < 60 → I 70 s = 0 ∧ I 71 s = -9) ∧ (∀ s, s < 60 → I 72 s = I 132 (2 * s) ∧ I 73 s = I 132 (2 * s + 1) ∧ (I 132 (2 * s) = -1 ∨ 0 ≤ I 132 (2 * s)) ∧ (I 132 (2 * s + 1) = -1 ∨ 0 ≤ I 132 (2 * s + 1)))
/-- stays that one keeper has are apart -/
def Rx (I : Nat → Nat → Int32) (ns : Nat) : Prop := ∀ s s', s < ns → s' < ns → s ≠ s' → I 128 s = 1 → I 128 s' = 1 → I 129 s = I 129 s' → I 127 s < I 126 s' ∨ I 127 s' < I 126 s
def Rr (I : Nat → Nat → Int32) (ns now : Nat) : Prop := (∀ s side, s < 60 → side < 2 → (I 130 (2 * s + side) = 0 ∧ I (82 + side) s = 1501) ∨ (s < ns ∧ I 128 s = 1 ∧ I 127 s < nI now ∧ (∃ x, 1 ≤ x ∧ x ≤ 5 ∧ I 130 (2 * s + side) = nI x) ∧ I (79 + side) s = I 130 (2 * s + side) ∧ I (82 + side) s = I 131 (2 * s + side) ∧ ∃ y, y ≤ now ∧ I 131 (2 * s + side) = nI y)) ∧ I 74 0 = s_rv I (2 * ns)
/-- what is known for a day is right -/
def Rc (I : Nat → Nat → Int32) (ns : Nat) : Prop := I 74 8 = 1501 ∨ ∃ day, day ≤ 1500 ∧ I 74 8 = nI day ∧ (∀ h, h < 20 → I 75 h = s_hand I ns (nI h) (nI day)) ∧ ∀ k, k < 20 → I 76 k = s_trust I ns (nI k) (nI day) ∧ I 77 k = s_kn I (nI k) (nI day) ns
/-- the tape, the row, the row of keepers -/
def Rp (I : Nat → Nat → Int32) : Prop := (∃ tz, tz ≤ 60 ∧ I 91 0 = nI tz ∧ I 113 24 = nI tz ∧ ∀ j, j < tz → ∃ x, x < 256 ∧ I 92 j = nI x ∧ I 133 j = (nI x).toInt8.toInt32) ∧
  (∃ rz, rz ≤ 12 ∧ I 95 0 = nI rz ∧ I 113 39 = nI rz ∧ ∀ j, j < rz → I 96 j = I 146 j ∧ (I 146 j = -1 ∨ ∃ x, x < 100 ∧ I 146 j = nI x)) ∧
  (∃ oz, oz ≤ 6 ∧ I 97 0 = nI oz ∧ I 113 41 = nI oz ∧ ∀ j, j < oz → I 98 j = I 147 j ∧ (I 147 j = -1 ∨ ∃ x, x < 100 ∧ I 147 j = nI x))
/-! texts: a fault's place, or where it ends and its steps -/
abbrev p_R : Type := Nat ⊕ (Nat × List Int32)
def p_dig (b : Int32) : Bool := decide (48 ≤ b) && decide (b ≤ 57)
def p_let (b : Int32) : Option Nat := (List.range 10).find? (fun j => decide (am_tx j = b))
def p_num (T : Nat → Int32) : Nat → Nat → Int32 → Nat × Int32
  | 0, i, a => (i, a)
  | f + 1, i, a => if p_dig (T i) = true then p_num T f (i + 1) (a * 10 + T i - 48) else (i, a)
def p_unit (T : Nat → Int32) (br : Nat → p_R) (i : Nat) : p_R :=
  if p_dig (T i) = true then .inr ((p_num T 5 i 0).1, [(p_num T 5 i 0).2]) else if T i = 40 then br i else match p_let (T i) with
  | some j => .inr (i + 1, [100000 + nI j])
  | none => .inl i
def p_pl (T : Nat → Int32) (br : Nat → p_R) : Nat → Nat → List Int32 → p_R
  | 0, i, c => .inr (i, c)
  | f + 1, i, c => if T i = 42 ∨ T i = 47 then (match p_unit T br (i + 1) with
    | .inl x => .inl x
    | .inr q => p_pl T br f q.1 (c ++ q.2 ++ [-(T i)])) else .inr (i, c)
def p_prod (T : Nat → Int32) (br : Nat → p_R) (i : Nat) : p_R := match p_unit T br i with
  | .inl x => .inl x
  | .inr q => p_pl T br 60 q.1 q.2
def p_sl (T : Nat → Int32) (br : Nat → p_R) : Nat → Nat → List Int32 → p_R
  | 0, i, c => .inr (i, c)
  | f + 1, i, c => if T i = 43 ∨ T i = 45 then (match p_prod T br (i + 1) with
    | .inl x => .inl x
    | .inr q => p_sl T br f q.1 (c ++ q.2 ++ [-(T i)])) else .inr (i, c)
def p_sum (T : Nat → Int32) (br : Nat → p_R) (i : Nat) : p_R := match p_prod T br i with
  | .inl x => .inl x
  | .inr q => p_sl T br 60 q.1 q.2
/-- a bracket, from its sign on, with so many more within -/
def p_br (T : Nat → Int32) : Nat → Nat → p_R
  | 0, i => .inl i
  | m + 1, i => match p_sum T (p_br T m) (i + 1) with
    | .inl x => .inl x
    | .inr q => if T q.1 = 60 ∨ T q.1 = 61 ∨ T q.1 = 62 then (match p_sum T (p_br T m) (q.1 + 1) with
      | .inl x => .inl x
      | .inr r => if T r.1 = 41 then .inr (r.1 + 1, q.2 ++ r.2 ++ [-(T q.1)]) else .inl r.1) else if T q.1 = 41 then .inr (q.1 + 1, q.2) else .inl q.1
def p_text (T : Nat → Int32) (n : Nat) : p_R := match p_sum T (p_br T 5) 0 with
  | .inl x => .inl x
  | .inr q => if q.1 < n then .inl q.1 else .inr q
def p_of (f : Nat → Int32) (o n : Nat) : Nat → Int32 := fun i => if i < n then f (o + i) else -1
/-- the terms -/
def Rm (I : Nat → Nat → Int32) (nt : Nat) : Prop := ∀ t, t < nt → I 86 t = I 134 t ∧ I 87 t = I 135 t ∧ (∃ x, x ≤ 1500 ∧ I 135 t = nI x) ∧ ∃ n code, n ≤ 60 ∧ I 136 t = nI n ∧ p_text (p_of (I 137) (60 * t) n) n = .inr (n, code) ∧ I 88 t = nI code.length ∧ code.length ≤ 60 ∧ ∀ j c, code[j]? = some c → I 89 (60 * t + j) = c
/-- all of it -/
def Rel (I : Nat → Nat → Int32) (nk nh ns nt now : Nat) : Prop := Rn I nk nh ns nt ∧ Rd I now ∧ Rf I ∧ Rt I ∧ Rk I nk ∧ Rh I nh ∧ Rs I nk nh ns ∧ Rx I ns ∧ Rr I ns now ∧ Rc I ns ∧ Rp I ∧ Rm I nt
def RelE (I : Nat → Nat → Int32) : Prop := ∃ nk nh ns nt now, Rel I nk nh ns nt now
/-- a call of both: the answers are the same, and all of it holds again -/
def am_Op (d kx km : Nat) (as : List Value) : Prop := ∀ (I : Nat → Nat → Int32) (L : Nat → Nat → Int64), RelE I → am_meth d kx (.ref 0 :: as) (am_mk I L, 0, 0) (am_ri (fun z I1 L1 => am_meth d km (.ref 113 :: as) (am_mk I1 L1, 0, 0) (am_ri (fun z2 I2 _ => z2 = z ∧ RelE I2))))
theorem Rel_ref {I : Nat → Nat → Int32} {nk nh ns nt now : Nat} (h : Rel I nk nh ns nt now) {j : Nat} : RelE (am_no (am_rf I j) j) := by
  refine ⟨nk, nh, ns, nt, now, h.1, h.2.1, fun i hi => ?_, h.2.2.2⟩
  show upd (I 1) j (I 1 j + 1) i = upd (I 156) j (I 156 j + 1) i
  have hj := h.2.2.1 i hi
  unfold upd
  by_cases e : i = j
  · subst e
    rw [if_pos rfl, if_pos rfl, hj]
  · rw [if_neg e, if_neg e]
    exact hj
