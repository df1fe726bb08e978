/-! THE STATE that both stand for: V c j, numbered as the reference's cells are (113 its own numbers). RC: the class's cells show V. RM: the reference's do. Inv: what V may be between two calls.
class: 1 refusals, 3 land, 4 limit, 6+a hours, 16.0 keepers, 17 .. 20 their town, beasts, persons, marks, 22+k wish, 42.0 houses, 43 town, 44 beasts, 46+h look, 66.0 now, 66.1 stays, 67 .. 73 house, from, to, state, keeper, before, after, 74.0 reviews, 74.8 the day of 75 hand, 76 trust, 77 known; 79, 80 stars, 82, 83 told on; 85.0 terms, 86 house, 87 day, 88 size, 89 steps; 91.0, 92 tape; 95.0, 96 row; 97.0, 98 told
reference: 113.0 today, .4 keepers, .10 houses, .14 stays, .24 taped, .25 terms, .39 row, .41 told; 114 landOf, 115 hours, 116 limitOf, 117 .. 120 ke.., 121 wishOf, 122, 123 ho.., 124 lookOf, 125 .. 129 s.., 130 stars, 131 starsDay, 132 items, 133 tape, 134 .. 137 t.., 146 row, 147 told, 156 refusals -/
abbrev am_V : Type := Nat → Nat → Int32
theorem am_vat {α : Type} (f : Nat → α) (k : Nat) (v : α) (j : Nat) : va_up f k v j = if j = k then v else f j := rfl
theorem am_uat (f : Nat → Int32) (k : Nat) (x : Int32) (j : Nat) : upd f k x j = if j = k then x else f j := rfl
/-- a review counts as known on k -/
def s_ct (S D T : Nat → Int32) (s side : Nat) (k : Int32) : Bool := decide ((¬ S (2 * s + side) = 0 ∧ ¬ k < D (2 * s + side)) ∧ ((0 < S (2 * s + (1 - side)) ∧ D (2 * s + (1 - side)) ≤ k) ∨ T s + 14 < k))
def s_n (P : Nat → Bool) : Nat → Int32
  | 0 => 0
  | s + 1 => if P s = true then s_n P s + 1 else s_n P s
def s_s (P : Nat → Bool) (x : Nat → Int32) : Nat → Int32
  | 0 => 0
  | s + 1 => if P s = true then s_s P x s + x s else s_s P x s
/-- HAND of a house as known on k, with n stays -/
def s_hand (H S D T : Nat → Int32) (n : Nat) (h k : Int32) : Int32 := if s_n (fun s => decide (H s = h) && s_ct S D T s 0 k) n = 0 then 300 else 100 * s_s (fun s => decide (H s = h) && s_ct S D T s 0 k) (fun s => S (2 * s)) n / s_n (fun s => decide (H s = h) && s_ct S D T s 0 k) n
def s_kn (W S D T : Nat → Int32) (n : Nat) (w k : Int32) : Int32 := s_n (fun s => decide (W s = w) && s_ct S D T s 0 k) n
/-- TRUST of a keeper as known on k -/
def s_trust (H W S D T : Nat → Int32) (n : Nat) (w k : Int32) : Int32 := s_s (fun s => decide (W s = w) && s_ct S D T s 0 k) (fun s => 100 * S (2 * s) - s_hand H S D T n (H s) k) n / (s_kn W S D T n w k + 1)
def am_r10 (I : am_V) (a : Nat) : Nat → Int32 := [I 6, I 7, I 8, I 9, I 10, I 11, I 12, I 13, I 14, I 15].getD a (fun _ => 0)
def am_r20 (I : am_V) (a : Nat) : Nat → Int32 := [I 22, I 23, I 24, I 25, I 26, I 27, I 28, I 29, I 30, I 31, I 32, I 33, I 34, I 35, I 36, I 37, I 38, I 39, I 40, I 41].getD a (fun _ => 0)
def am_q20 (I : am_V) (a : Nat) : Nat → Int32 := [I 46, I 47, I 48, I 49, I 50, I 51, I 52, I 53, I 54, I 55, I 56, I 57, I 58, I 59, I 60, I 61, I 62, I 63, I 64, I 65].getD a (fun _ => 0)
/-! texts: a fault's place, or where it ends and its steps -/
abbrev p_R : Type := Nat ⊕ (Nat × List Int32)
def p_dig (b : Int32) : Bool := decide (48 ≤ b) && decide (b ≤ 57)
def p_let (b : Int32) : Option Nat := (List.range 10).find? (fun j => decide (am_tx j = b))
def p_num (T : Nat → Int32) : Nat → Nat → Int32 → Nat × Int32
  | 0, i, a => (i, a)
  | f + 1, i, a => if p_dig (T i) = true then p_num T f (i + 1) (a * 10 + T i - 48) else (i, a)
def p_unit (T : Nat → Int32) (br : Nat → p_R) (i : Nat) : p_R :=
  if p_dig (T i) = true then .inr ((p_num T 5 i 0).1, [(p_num T 5 i 0).2]) else if T i = 40 then br i else match p_let (T i) with
  | some j => .inr (i + 1, [100000 + nI j])
  | none => .inl i
def p_pl (T : Nat → Int32) (br : Nat → p_R) : Nat → Nat → List Int32 → p_R
  | 0, i, c => .inr (i, c)
  | f + 1, i, c => if T i = 42 ∨ T i = 47 then (match p_unit T br (i + 1) with
    | .inl x => .inl x
    | .inr q => p_pl T br f q.1 (c ++ q.2 ++ [-(T i)])) else .inr (i, c)
def p_prod (T : Nat → Int32) (br : Nat → p_R) (i : Nat) : p_R := match p_unit T br i with
  | .inl x => .inl x
  | .inr q => p_pl T br 60 q.1 q.2
def p_sl (T : Nat → Int32) (br : Nat → p_R) : Nat → Nat → List Int32 → p_R
  | 0, i, c => .inr (i, c)
  | f + 1, i, c => if T i = 43 ∨ T i = 45 then (match p_prod T br (i + 1) with
    | .inl x => .inl x
    | .inr q => p_sl T br f q.1 (c ++ q.2 ++ [-(T i)])) else .inr (i, c)
def p_sum (T : Nat → Int32) (br : Nat → p_R) (i : Nat) : p_R := match p_prod T br i with
  | .inl x => .inl x
  | .inr q => p_sl T br 60 q.1 q.2
/-- a bracket, from its sign on, with so many more within -/
def p_br (T : Nat → Int32) : Nat → Nat → p_R
  | 0, i => .inl i
  | m + 1, i => match p_sum T (p_br T m) (i + 1) with
    | .inl x => .inl x
    | .inr q => if T q.1 = 60 ∨ T q.1 = 61 ∨ T q.1 = 62 then (match p_sum T (p_br T m) (q.1 + 1) with
      | .inl x => .inl x
      | .inr r => if T r.1 = 41 then .inr (r.1 + 1, q.2 ++ r.2 ++ [-(T q.1)]) else .inl r.1) else if T q.1 = 41 then .inr (q.1 + 1, q.2) else .inl q.1
def p_text (T : Nat → Int32) (n : Nat) : p_R := match p_sum T (p_br T 5) 0 with
  | .inl x => .inl x
  | .inr q => if q.1 < n then .inl q.1 else .inr q
def p_of (f : Nat → Int32) (o n : Nat) : Nat → Int32 := fun i => if i < n then f (o + i) else -1
/-! the class's cells -/
def Cn (I V : am_V) : Prop := I 16 0 = V 113 4 ∧ I 42 0 = V 113 10 ∧ I 66 0 = V 113 0 ∧ I 66 1 = V 113 14 ∧ I 85 0 = V 113 25 ∧ I 91 0 = V 113 24 ∧ I 95 0 = V 113 39 ∧ I 97 0 = V 113 41
def Ce (I V : am_V) : Prop := I 1 = V 156 ∧ I 3 = V 114 ∧ I 4 = V 116 ∧ I 17 = V 117 ∧ I 18 = V 118 ∧ I 19 = V 119 ∧ I 20 = V 120 ∧ I 43 = V 122 ∧ I 44 = V 123 ∧ I 67 = V 125 ∧ I 68 = V 126 ∧ I 69 = V 127 ∧ I 70 = V 128 ∧ I 86 = V 134 ∧ I 87 = V 135 ∧ I 96 = V 146 ∧ I 98 = V 147
/-- two arrays of arrays; keepers of stays; lists -/
def Ca (I V : am_V) : Prop := (∀ a b, a < 10 → b < 10 → am_r10 I a b = V 115 (10 * a + b)) ∧ (∀ k l, k < 20 → l < 5 → am_r20 I k l = V 121 (5 * k + l)) ∧ (∀ h i, h < 20 → i < 31 → am_q20 I h i = V 124 (31 * h + i)) ∧ (∀ s, s < 60 → I 71 s = if s < am_n V 113 14 then V 129 s else -9) ∧ ∀ s, s < 60 → I 72 s = V 132 (2 * s) ∧ I 73 s = V 132 (2 * s + 1)
/-- reviews -/
def Cr (I V : am_V) : Prop := (∀ s, s < 60 → I 79 s = V 130 (2 * s) ∧ I 80 s = V 130 (2 * s + 1) ∧ I 82 s = (if V 130 (2 * s) = 0 then 1501 else V 131 (2 * s)) ∧ I 83 s = (if V 130 (2 * s + 1) = 0 then 1501 else V 131 (2 * s + 1))) ∧ I 74 0 = s_n (fun r => !decide (V 130 r = 0)) (2 * am_n V 113 14)
/-- what is known for a day is right -/
def Cc (I V : am_V) : Prop := I 74 8 = 1501 ∨ ∃ day, day ≤ 1500 ∧ I 74 8 = nI day ∧ (∀ h, h < 20 → I 75 h = s_hand (V 125) (V 130) (V 131) (V 127) (am_n V 113 14) (nI h) (nI day)) ∧ ∀ k, k < 20 → I 76 k = s_trust (V 125) (V 129) (V 130) (V 131) (V 127) (am_n V 113 14) (nI k) (nI day) ∧ I 77 k = s_kn (V 129) (V 130) (V 131) (V 127) (am_n V 113 14) (nI k) (nI day)
/-- the tape; the terms' steps -/
def Cp (I V : am_V) : Prop := (∀ j, j < 60 → ∃ x, x < 256 ∧ I 92 j = nI x ∧ V 133 j = (nI x).toInt8.toInt32) ∧ ∀ t, t < am_n V 113 25 → ∃ code, p_text (p_of (V 137) (60 * t) (am_n V 136 t)) (am_n V 136 t) = .inr (am_n V 136 t, code) ∧ I 88 t = nI code.length ∧ code.length ≤ 60 ∧ ∀ j c, code[j]? = some c → I 89 (60 * t + j) = c
def RC (I V : am_V) : Prop := Cn I V ∧ Ce I V ∧ Ca I V ∧ Cr I V ∧ Cc I V ∧ Cp I V
/-! the reference's -/
def am_pc (c : Nat) : Bool := decide (114 ≤ c ∧ c ≤ 137 ∨ c = 146 ∨ c = 147 ∨ c = 156)
def am_pf (j : Nat) : Bool := decide (j = 0 ∨ j = 4 ∨ j = 10 ∨ j = 14 ∨ j = 24 ∨ j = 25 ∨ j = 39 ∨ j = 41)
def RM (I V : am_V) : Prop := (∀ c, am_pc c = true → I c = V c) ∧ ∀ j, am_pf j = true → I 113 j = V 113 j
/-! what V may be -/
def Nn (V : am_V) : Prop := am_ix V 113 0 1501 ∧ am_ix V 113 4 21 ∧ am_ix V 113 10 21 ∧ am_ix V 113 14 61 ∧ am_ix V 113 24 61 ∧ am_ix V 113 25 31 ∧ am_ix V 113 39 13 ∧ am_ix V 113 41 7
def Nt (V : am_V) : Prop := (∀ t, t < 10 → am_ix V 114 t 5) ∧ (∀ j, j < 100 → am_ix V 115 j 241) ∧ (∀ l, l < 5 → am_ix V 116 l 181)
def Nk (V : am_V) : Prop := ∀ k, k < 20 → am_ix V 117 k 10 ∧ am_ix V 118 k 256 ∧ am_ix V 120 k 100000 ∧ am_ix V 122 k 10 ∧ am_ix V 123 k 256
def Ns (V : am_V) : Prop := (∀ s, s < 60 → am_ix V 125 s 20 ∧ am_ix V 126 s 1501 ∧ am_ix V 127 s 1501 ∧ am_ix V 128 s 3 ∧ (am_n V 113 14 ≤ s → V 128 s = 0)) ∧ ∀ s, s < am_n V 113 14 → (am_n V 126 s ≤ am_n V 127 s ∧ 1 ≤ am_n V 126 s) ∧ (V 129 s = -9 ∨ am_ix V 129 s 20) ∧ (V 128 s = 0 → V 129 s = -9) ∧ (V 128 s = 1 → am_ix V 129 s 20)
/-- stays that one keeper has are apart -/
def Nx (V : am_V) : Prop := ∀ s s', s < am_n V 113 14 → s' < am_n V 113 14 → s ≠ s' → V 128 s = 1 → V 128 s' = 1 → V 129 s = V 129 s' → am_n V 127 s < am_n V 126 s' ∨ am_n V 127 s' < am_n V 126 s
def Nr (V : am_V) : Prop := (∀ r, r < 120 → am_ix V 130 r 6 ∧ (¬ V 130 r = 0 → r / 2 < am_n V 113 14 ∧ V 128 (r / 2) = 1 ∧ am_n V 127 (r / 2) < am_n V 113 0)) ∧ ∀ r, r < 120 → V 132 r = -1 ∨ 0 ≤ V 132 r
def Np (V : am_V) : Prop := (∀ j, j < 12 → V 146 j = -1 ∨ am_ix V 146 j 100) ∧ (∀ j, j < 6 → V 147 j = -1 ∨ am_ix V 147 j 100) ∧ ∀ t, t < am_n V 113 25 → (V 134 t = -1 ∨ am_ix V 134 t 20) ∧ am_ix V 135 t 1501 ∧ am_ix V 136 t 61
def Nd (V : am_V) : Prop := ∀ r, r < 120 → am_ix V 131 r 1501
def Inv (V : am_V) : Prop := Nn V ∧ Nt V ∧ Nk V ∧ Ns V ∧ Nx V ∧ Nr V ∧ Np V ∧ Nd V
def RelE (I : am_V) : Prop := ∃ V, RC I V ∧ RM I V ∧ Inv V
/-- a call of both: the answers are the same, and all of it holds again -/
def am_Op (d kx km : Nat) (as : List Value) : Prop := ∀ (I : am_V) (L : Nat → Nat → Int64), RelE I → am_meth d kx (.ref 0 :: as) (am_mk I L, 0, 0) (am_ri (fun z I1 L1 => am_meth d km (.ref 113 :: as) (am_mk I1 L1, 0, 0) (am_ri (fun z2 I2 _ => z2 = z ∧ RelE I2))))
/-- only the class's cells have changed; only the reference's -/
def am_hi (I' I : am_V) : Prop := ∀ c, 113 ≤ c → I' c = I c
def am_lo (I' I : am_V) : Prop := ∀ c, c < 113 → I' c = I c
theorem hi_r {I : am_V} : am_hi I I := fun _ _ => rfl
theorem lo_r {I : am_V} : am_lo I I := fun _ _ => rfl
theorem hi_up {I' I : am_V} {c : Nat} {f : Nat → Int32} (hc : c < 113) (h : am_hi I' I) : am_hi (va_up I' c f) I := fun x hx => by rw [am_vat, if_neg (by omega)]; exact h x hx
theorem lo_up {I' I : am_V} {c : Nat} {f : Nat → Int32} (hc : 113 ≤ c) (h : am_lo I' I) : am_lo (va_up I' c f) I := fun x hx => by rw [am_vat, if_neg (by omega)]; exact h x hx
theorem RM_hi {I' I V : am_V} (h : am_hi I' I) (hr : RM I V) : RM I' V := by
  refine ⟨fun c hc => ?_, fun j hj => ?_⟩
  · rw [h c (by simp only [am_pc, decide_eq_true_eq] at hc; omega)]; exact hr.1 c hc
  · rw [h 113 (by omega)]; exact hr.2 j hj
theorem RM_up {I V : am_V} {c : Nat} {f g : Nat → Int32} (hc : c ≠ 113) (hf : f = g) (hr : RM I V) : RM (va_up I c f) (va_up V c g) := by
  subst hf
  refine ⟨fun x hx => ?_, fun j hj => ?_⟩
  · simp only [am_vat]; split
    · rfl
    · exact hr.1 x hx
  · simp only [am_vat, if_neg (Ne.symm hc)]; exact hr.2 j hj
theorem RM_f {I V : am_V} {j : Nat} {x y : Int32} (hx : x = y) (hr : RM I V) : RM (va_up I 113 (upd (I 113) j x)) (va_up V 113 (upd (V 113) j y)) := by
  subst hx
  refine ⟨fun c hc => ?_, fun i hi => ?_⟩
  · have : c ≠ 113 := by simp only [am_pc, decide_eq_true_eq] at hc; omega
    simp only [am_vat, if_neg this]; exact hr.1 c hc
  · simp only [am_vat, if_true, am_uat]; split
    · rfl
    · exact hr.2 i hi
theorem RM_s {I V : am_V} {c : Nat} {f : Nat → Int32} (hc : am_pc c = false) (h3 : c ≠ 113) (hr : RM I V) : RM (va_up I c f) V := by
  refine ⟨fun x hx => ?_, fun j hj => ?_⟩
  · have : x ≠ c := by intro e; subst e; rw [hc] at hx; exact Bool.noConfusion hx
    simp only [am_vat, if_neg this]; exact hr.1 x hx
  · simp only [am_vat, if_neg (Ne.symm h3)]; exact hr.2 j hj
theorem RM_sf {I V : am_V} {j : Nat} {x : Int32} (hc : am_pf j = false) (hr : RM I V) : RM (va_up I 113 (upd (I 113) j x)) V := by
  refine ⟨fun c hc => ?_, fun i hi => ?_⟩
  · have : c ≠ 113 := by simp only [am_pc, decide_eq_true_eq] at hc; omega
    simp only [am_vat, if_neg this]; exact hr.1 c hc
  · have : i ≠ j := by intro e; subst e; rw [hc] at hi; exact Bool.noConfusion hi
    simp only [am_vat, if_true, am_uat, if_neg this]; exact hr.2 i hi
theorem RC_lo {I' I V : am_V} (h : am_lo I' I) (hr : RC I V) : RC I' V := by
  unfold RC Cn Ce Ca Cr Cc Cp am_r10 am_r20 am_q20 at hr ⊢
  have h2 : ∀ c, c < 113 → I' c = I c := h
  simp (disch := decide) only [h2] at ⊢
  exact hr
/-- a refusal -/
def o_no (V : am_V) (j : Nat) (x : Int32) : Int32 × am_V := (x, va_up V 156 (upd (V 156) j (V 156 j + 1)))
theorem Inv_no {V : am_V} {j : Nat} (h : Inv V) : Inv (va_up V 156 (upd (V 156) j (V 156 j + 1))) := h
theorem RC_no {I V : am_V} {j : Nat} (h : RC I V) : RC (am_rf I j) (va_up V 156 (upd (V 156) j (V 156 j + 1))) := by
  obtain ⟨hn, he, hr⟩ := h
  refine ⟨hn, ⟨?_, he.2⟩, hr⟩
  show upd (I 1) j (I 1 j + 1) = upd (V 156) j (V 156 j + 1)
  rw [he.1]
theorem RM_no {I V : am_V} {j : Nat} (h : RM I V) : RM (am_no I j) (va_up V 156 (upd (V 156) j (V 156 j + 1))) := RM_up (by decide) (by rw [h.1 156 (by decide)]) h
/-- the pattern of a call -/
theorem am_op {d kx km : Nat} {as : List Value} {o : am_V → Int32 × am_V}
    (hC : ∀ (I V : am_V) (L : Nat → Nat → Int64) (R : am_R), RC I V → Inv V → (∀ I' L', RC I' (o V).2 → am_hi I' I → R (some (.int (o V).1)) (am_mk I' L', 0, 0)) → am_meth d kx (.ref 0 :: as) (am_mk I L, 0, 0) R)
    (hM : ∀ (I V : am_V) (L : Nat → Nat → Int64) (R : am_R), RM I V → Inv V → (∀ I' L', RM I' (o V).2 → am_lo I' I → R (some (.int (o V).1)) (am_mk I' L', 0, 0)) → am_meth d km (.ref 113 :: as) (am_mk I L, 0, 0) R)
    (hI : ∀ V, Inv V → Inv (o V).2) : am_Op d kx km as := by
  rintro I L ⟨V, hc, hm, hv⟩
  refine hC I V L _ hc hv (fun I1 L1 hc1 hh => ⟨_, _, _, rfl, rfl, ?_⟩)
  exact hM I1 V L1 _ (RM_hi hh hm) hv (fun I2 L2 hm2 hl => ⟨_, _, _, rfl, rfl, rfl, _, RC_lo hl hc1, hm2, hI V hv⟩)
