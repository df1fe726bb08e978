/-! reading a text: the class -/
def w_tb (I : am_V) (T : Nat → Int32) (n : Nat) : Prop := I 91 0 = nI n ∧ n ≤ 60 ∧ (∀ j, j < n → I 92 j = T j) ∧ w_tl T n ∧ ∀ j, j < n → ∃ y, y < 256 ∧ T j = nI y
def w_tf (I' I : am_V) : Prop := ∀ c, c ≠ 93 → c ≠ 94 → I' c = I c
def w_ts (I : am_V) (i : Nat) (c : List Int32) : Prop := I 93 3 = nI i ∧ I 93 4 = -1 ∧ I 93 0 = nI c.length ∧ ∀ j x, c[j]? = some x → I 94 j = x
def w_bad (I : am_V) (x : Nat) : Prop := I 93 4 = nI x ∧ am_ix I 93 0 61
def w_RK (R : am_R) (I : am_V) (L : Nat → Nat → Int64) (c : List Int32) : p_R → Prop
  | .inl x => ∀ I', w_tf I' I → w_bad I' x → R none (am_mk I' L, 0, 0)
  | .inr q => ∀ I', w_tf I' I → w_ts I' q.1 (c ++ q.2) → R none (am_mk I' L, 0, 0)
def w_CS (T : Nat → Int32) (n k p D : Nat) (P : Nat → p_R) : Prop := ∀ (d : Nat) (R : am_R) (I : am_V) (L : Nat → Nat → Int64) (i : Nat) (c : List Int32), D ≤ d → w_tb I T n → w_ts I i c → i ≤ n → c.length ≤ i → w_RK R I L c (P i) → am_meth d k [.ref 93, .int (nI p)] (am_mk I L, 0, 0) R
section TX2
variable {d : Nat} {I I1 V : am_V} {L : Nat → Nat → Int64} {R : am_R} {T : Nat → Int32} {n : Nat} {br : Nat → p_R}
theorem tf_r : w_tf I I := fun _ _ _ => rfl
theorem tf_t {I2 : am_V} (h2 : w_tf I2 I1) (h1 : w_tf I1 I) : w_tf I2 I := fun c a b => (h2 c a b).trans (h1 c a b)
theorem tb_tf (h : w_tf I1 I) (hb : w_tb I T n) : w_tb I1 T n := by
  obtain ⟨a, b, c, e⟩ := hb
  refine ⟨by rw [h 91 (by decide) (by decide)]; exact a, b, fun j hj => by rw [h 92 (by decide) (by decide)]; exact c j hj, e⟩
theorem tb_ix (hb : w_tb I T n) : am_ix I 91 0 61 := am_ixn hb.1 (by have := hb.2.1; omega) (by decide)
theorem nx_e {i : Nat} {c : List Int32} (hb : w_tb I T n) (hs : w_ts I i c) (hi : i ≤ n) : w_nx I = T i := by
  obtain ⟨a, b, e, t, -⟩ := hb
  unfold w_nx
  rw [hs.1, a]
  by_cases q : i < n
  · rw [if_pos ⟨nI_pos' (by omega), nI_lt q (by omega)⟩]
    have : am_n I 93 3 = i := am_n_e hs.1 (by omega)
    rw [this]; exact e i q
  · rw [if_neg (fun w => nI_nlt (Nat.le_of_not_lt q) (by omega) w.2)]
    exact (t i (by omega)).symm
theorem ts_ix {i : Nat} {c : List Int32} (hs : w_ts I i c) (hc : c.length ≤ 60) : am_ix I 93 0 61 := am_ixn hs.2.2.1 (by omega) (by decide)
theorem ts_at {i : Nat} {c : List Int32} (hs : w_ts I i c) : w_ts (va_up I 93 (upd (I 93) 3 (I 93 3 + 1))) (i + 1) c ∧ w_tf (va_up I 93 (upd (I 93) 3 (I 93 3 + 1))) I := by
  obtain ⟨a, b, e, f⟩ := hs
  refine ⟨⟨?_, b, e, f⟩, fun c h1 _ => by rw [am_vat, if_neg h1]⟩
  show I 93 3 + 1 = _
  rw [a, nI_1]
theorem ts_as {i : Nat} {c : List Int32} {x : Int32} (hs : w_ts I i c) (hc : c.length < 60) : w_ts (w_as I x) i (c ++ [x]) := by
  obtain ⟨a, b, e, f⟩ := hs
  unfold w_as
  rw [if_pos (by rw [e]; exact nI_lt (b := 60) hc (by decide))]
  have en : am_n I 93 0 = c.length := am_n_e e (by omega)
  refine ⟨a, b, ?_, fun j y hj => ?_⟩
  · show I 93 0 + 1 = _
    rw [e, nI_1, List.length_append]; rfl
  · show upd (I 94) (am_n I 93 0) x j = y
    rw [en]
    by_cases q : j = c.length
    · subst q
      rw [upd_at]
      rw [List.getElem?_concat_length] at hj
      exact Option.some.inj hj
    · rw [upd_ne q]
      rcases Nat.lt_or_ge j c.length with q2 | q2
      · rw [List.getElem?_append_left q2] at hj
        exact f j y hj
      · rw [List.getElem?_eq_none (by rw [List.length_append]; simp only [List.length_cons, List.length_nil]; omega)] at hj
        cases hj
theorem as_tf {x : Int32} : w_tf (w_as I x) I := fun c h1 h2 => by
  unfold w_as
  split
  · rw [am_vat, if_neg h2, am_vat, if_neg h1]
  · rfl
theorem as_bad {x : Nat} {y : Int32} (h : w_bad I x) : w_bad (w_as I y) x := by
  obtain ⟨a, b, e⟩ := h
  unfold w_as
  split
  · rename_i c
    rw [b, show (60 : Int32) = nI 60 from rfl, nI_ltI (by omega) (by decide)] at c
    refine ⟨a, am_ixn (x := am_n I 93 0 + 1) ?_ (by omega) (by decide)⟩
    show I 93 0 + 1 = _
    rw [← nI_1, ← b]
  · exact ⟨a, b, e⟩
theorem fl_bad {i : Nat} {c : List Int32} (hs : w_ts I i c) (hc : c.length ≤ 60) : w_bad (w_fl I) i ∧ w_tf (w_fl I) I := by
  obtain ⟨a, b, e, f⟩ := hs
  unfold w_fl
  rw [if_pos b]
  exact ⟨⟨a, am_ixn (x := c.length) e (by omega) (by decide)⟩, fun c h1 _ => by rw [am_vat, if_neg h1]⟩
theorem RK_tf {c : List Int32} {r : p_R} (h : w_tf I1 I) (hk : w_RK R I L c r) : w_RK R I1 L c r := by
  cases r with
  | inl x => exact fun I' a b => hk I' (tf_t a h) b
  | inr q => exact fun I' a b => hk I' (tf_t a h) b
theorem bad_n {x : Nat} (h : w_bad I x) (hx : x ≤ 60) : ¬ I 93 4 = -1 := fun q => by
  rw [h.1] at q
  have := nI_pos (n := x) (by omega)
  rw [q] at this; exact this (by decide)
theorem ok_indexOf {y : Nat} (hd : 5 ≤ d) (hy : y < 256) (h : R (some (.int (am_on (-1) (p_let (nI y))))) (am_mk I L, 0, 0)) : am_meth d 252 [.float 2, .int (nI y)] (am_mk I L, 0, 0) R := by
  obtain ⟨d, rfl⟩ : ∃ e, d = e + 3 := ⟨d - 3, by omega⟩
  refine ar_in rfl rfl rfl (r_Str_indexOf_0 (ar_in rfl rfl rfl (r_Str_indexOf2_0 (by omega) (ar_in rfl rfl rfl (r_Lat_indexOf_0 (by omega) ⟨fun _ => ⟨fun _ => ?_, fun c => absurd (by decide) c⟩, fun c => absurd ⟨nI_pos' (by omega), nI_le (b := 255) (by omega) (by decide)⟩ c⟩)))))
  exact ok_indexOfChar (by omega) hy ⟨_, _, _, rfl, rfl, _, _, _, rfl, rfl, _, _, _, rfl, rfl, h⟩
theorem c_letter {i : Nat} {c : List Int32} {x : Int32} (hd : 6 ≤ d) (hb : w_tb I T n) (hs : w_ts I i c) (hi : i ≤ n) (hc : c.length ≤ i) (hx : T i = x) (hk : w_RK R I L c (match p_let (T i) with
    | some j => .inr (i + 1, [100000 + nI j])
    | none => .inl i)) : am_meth d 144 [.ref 93, .int x] (am_mk I L, 0, 0) R := by
  obtain ⟨d, rfl⟩ : ∃ e, d = e + 1 := ⟨d - 1, by omega⟩
  subst hx
  have h60 := hb.2.1
  have fb := fl_bad hs (by omega)
  refine ar_in rfl rfl rfl (r_Text_readLetter_0 (by omega) ⟨fun q => ?_, fun q => ?_⟩)
  · rw [q, show p_let (-1) = none from by decide] at hk
    exact hk _ fb.2 fb.1
  · have hin := tl_lt hb.2.2.2.1 q
    obtain ⟨y, hy, ey⟩ := hb.2.2.2.2 i hin
    rw [ey] at hk ⊢
    have ec : ((nI y).toUInt32 % 65536).toInt32 = nI y := lg_i2c_word (by rw [nI_toInt (by omega)]; omega) (by rw [nI_toInt (by omega)]; omega)
    rw [ec]
    refine ok_indexOf (by omega) hy ⟨_, _, _, rfl, rfl, ?_⟩
    revert hk
    cases e : p_let (nI y) with
    | none => exact fun hk => ⟨fun _ => hk _ fb.2 fb.1, fun w => absurd (show (-1 : Int32) < 0 by decide) w⟩
    | some j =>
      have hj := (let_some e).1
      intro hk
      refine ⟨fun w => absurd w (nI_pos (n := j) (by omega)), fun _ => ⟨ts_ix hs (by omega), ?_⟩⟩
      rintro _ rfl
      have s1 := ts_as (x := 100000 + nI j) hs (by omega)
      have s2 := ts_at s1
      exact hk _ (tf_t s2.2 as_tf) s2.1
theorem c_num {c : List Int32} (hc : c.length < 60) (hd : 2 ≤ d) : ∀ f j i a (I : am_V), j + f = 5 → w_tb I T n → w_ts I i c → i ≤ n → (∀ I', w_tf I' I → w_ts I' (p_num T f i a).1 (c ++ [(p_num T f i a).2]) → R none (am_mk I' L, 0, 0)) → am_Run am_X0 (am_meth d) 140 R 4 [some (.ref 93), some (.int a), some (.int (nI j))] [] (am_mk I L, 0, 0)
  | 0, j, i, a, I, hj, hb, hs, hi, hk => by
    have : j = 5 := by omega
    subst this
    exact r_Text_readNumber_4 hd ⟨fun q => absurd q (by decide), fun _ => ⟨ts_ix hs (by omega), hk _ as_tf (ts_as hs hc)⟩⟩
  | f + 1, j, i, a, I, hj, hb, hs, hi, hk => by
    refine r_Text_readNumber_4 hd ⟨fun _ => ⟨tb_ix hb, ?_⟩, fun q => absurd (nI_lt (b := 5) (by omega) (by decide)) q⟩
    rw [nx_e hb hs hi]
    refine ⟨fun q => ⟨tb_ix hb, ?_⟩, fun q => ⟨ts_ix hs (by omega), ?_⟩⟩
    · rintro _ rfl
      have s2 := ts_at hs
      have hin := tl_lt hb.2.2.2.1 (dig_n q).1
      rw [p_num, if_pos q] at hk
      exact c_num hc hd f (j + 1) (i + 1) _ _ (by omega) (tb_tf s2.2 hb) s2.1 (by omega) (fun I' a b => hk I' (tf_t a s2.2) b)
    · rw [p_num, if_neg q] at hk
      exact hk _ as_tf (ts_as hs hc)
def p_bk (T : Nat → Int32) (m j : Nat) : p_R := match p_sum T (p_br T m) j with
  | .inl x => .inl x
  | .inr q => if T q.1 = 60 ∨ T q.1 = 61 ∨ T q.1 = 62 then (match p_sum T (p_br T m) (q.1 + 1) with
    | .inl x => .inl x
    | .inr r => if T r.1 = 41 then .inr (r.1 + 1, q.2 ++ r.2 ++ [-(T q.1)]) else .inl r.1) else if T q.1 = 41 then .inr (q.1 + 1, q.2) else .inl q.1
theorem c_unit {p m D : Nat} (hD : 7 ≤ D) (hpm : p + m = 5) (hbk : ∀ m', m = m' + 1 → w_CS T n 142 (p + 1) D (p_bk T m')) : w_CS T n 137 p (D + 1) (p_unit T (p_br T m)) := by
  intro d R I L i c hd hb hs hi hc hk
  obtain ⟨d, rfl⟩ : ∃ e, d = e + 1 := ⟨d - 1, by omega⟩
  have h60 := hb.2.1
  refine ar_in rfl rfl rfl (r_Text_readUnit_0 (by omega) ⟨tb_ix hb, ?_⟩)
  rw [nx_e hb hs hi]
  unfold p_unit at hk
  refine ⟨fun q => ?_, fun q => ⟨fun q2 => ?_, fun q2 => ?_⟩⟩
  · rw [if_pos q] at hk
    have hin := tl_lt hb.2.2.2.1 (dig_n q).1
    obtain ⟨d, rfl⟩ : ∃ e, d = e + 1 := ⟨d - 1, by omega⟩
    refine ar_in rfl rfl rfl (r_Text_readNumber_0 ?_)
    exact c_num (c := c) (by omega) (by omega) 5 0 i 0 I rfl hb hs hi (fun I' a b => ⟨_, _, rfl, rfl, hk I' a b⟩)
  · rw [if_neg q, if_pos q2] at hk
    have hin := tl_lt hb.2.2.2.1 (show ¬ T i = -1 by rw [q2]; decide)
    refine ⟨fun q3 => ?_, fun q3 => ?_⟩
    · rw [show (5 : Int32) = nI 5 from rfl, nI_ltI (by omega) (by decide)] at q3
      obtain ⟨m', rfl⟩ : ∃ m', m = m' + 1 := ⟨m - 1, by omega⟩
      rintro _ rfl
      have s2 := ts_at hs
      rw [nI_1]
      have hk : w_RK R I L c (p_bk T m' (i + 1)) := hk
      refine hbk m' rfl d _ _ L (i + 1) c (by omega) (tb_tf s2.2 hb) s2.1 (by omega) (by omega) ?_
      revert hk
      cases p_bk T m' (i + 1) with
      | inl x => exact fun hk I' a b => ⟨_, _, rfl, rfl, hk I' (tf_t a s2.2) b⟩
      | inr r => exact fun hk I' a b => ⟨_, _, rfl, rfl, hk I' (tf_t a s2.2) b⟩
    · have : m = 0 := by
        rw [show (5 : Int32) = nI 5 from rfl, nI_ltI (by omega) (by decide)] at q3
        omega
      subst this
      have hk : ∀ I', w_tf I' I → w_bad I' i → R none (am_mk I' L, 0, 0) := hk
      refine c_letter (by omega) hb hs hi hc rfl ?_
      rw [q2, show p_let 40 = none from by decide]
      exact fun I' a b => ⟨_, _, rfl, rfl, hk I' a b⟩
  · rw [if_neg q, if_neg q2] at hk
    refine c_letter (by omega) hb hs hi hc rfl ?_
    revert hk
    cases p_let (T i) with
    | none => exact fun hk I' a b => ⟨_, _, rfl, rfl, hk I' a b⟩
    | some j => exact fun hk I' a b => ⟨_, _, rfl, rfl, hk I' a b⟩
theorem c_Lprod {p D : Nat} (hbr : ∀ i, i < n → T i = 40 → w_ub n i (br i)) (hu : w_CS T n 137 p D (p_unit T br)) (hd : D ≤ d) (hd2 : 2 ≤ d) : ∀ f j i c0 c (I : am_V), j + f = 60 → w_tb I T n → w_ts I i (c0 ++ c) → i ≤ n → (c0 ++ c).length ≤ i → w_RK R I L c0 (p_pl T br f i c) → am_Run am_X0 (am_meth d) 136 R 7 [some (.ref 93), some (.int (nI p)), some (.int (nI j)), none] [] (am_mk I L, 0, 0)
  | 0, j, i, c0, c, I, hj, hb, hs, hi, hc, hk => by
    have : j = 60 := by omega
    subst this
    exact r_Text_readProduct_7 hd2 ⟨fun q => absurd q (by decide), fun _ => hk I tf_r hs⟩
  | f + 1, j, i, c0, c, I, hj, hb, hs, hi, hc, hk => by
    have h60 := hb.2.1
    have hT := hb.2.2.2.1
    refine r_Text_readProduct_7 hd2 ⟨fun _ => ⟨fun _ => ⟨tb_ix hb, ?_⟩, fun q => absurd hs.2.1 q⟩, fun q => absurd (nI_lt (b := 60) (by omega) (by decide)) q⟩
    rw [nx_e hb hs hi]
    unfold p_pl at hk
    have go : (T i = 42 ∨ T i = 47) → am_meth d 137 [.ref 93, .int (nI p)] (am_mk (va_up I 93 (upd (I 93) 3 (I 93 3 + 1))) L, 0, 0) (am_rv (fun I7 L8 => am_ix I7 93 0 61 ∧ am_Run am_X0 (am_meth d) 136 R 7 [some (.ref 93), some (.int (nI p)), some (.int (nI (j + 1))), none] [] (am_mk (w_as I7 (-(T i))) L8, 0, 0))) := by
      intro sg
      rw [if_pos sg] at hk
      have hin : i < n := tl_lt hT (by rcases sg with sg | sg <;> rw [sg] <;> decide)
      have s2 := ts_at hs
      have ub := unit_b hT hbr (i := i + 1) (by omega)
      refine hu d _ _ L (i + 1) (c0 ++ c) hd (tb_tf s2.2 hb) s2.1 (by omega) (by omega) ?_
      revert hk ub
      cases e : p_unit T br (i + 1) with
      | inl x =>
        intro hk ub I' a b
        have := ub.2
        have b2 : w_bad (w_as I' (-(T i))) x := as_bad b
        have f2 : w_tf (w_as I' (-(T i))) I := tf_t as_tf (tf_t a s2.2)
        exact ⟨_, _, rfl, rfl, b.2, r_Text_readProduct_7 hd2 ⟨fun _ => ⟨fun q => absurd q (bad_n b2 (by omega)), fun _ => hk _ f2 b2⟩, fun _ => hk _ f2 b2⟩⟩
      | inr q =>
        intro hk ub I' a b
        obtain ⟨u1, u2, u3⟩ := ub
        have lx : (c0 ++ c ++ q.2).length < q.1 := by rw [List.length_append]; omega
        have s3 := ts_as (x := -(T i)) b (by omega)
        have ea : c0 ++ c ++ q.2 ++ [-(T i)] = c0 ++ (c ++ q.2 ++ [-(T i)]) := by simp only [List.append_assoc]
        have f2 : w_tf (w_as I' (-(T i))) I := tf_t as_tf (tf_t a s2.2)
        have l3 : (c0 ++ (c ++ q.2 ++ [-(T i)])).length ≤ q.1 := by rw [← ea, List.length_append]; simp only [List.length_cons, List.length_nil]; omega
        rw [ea] at s3
        exact ⟨_, _, rfl, rfl, ts_ix b (by omega), c_Lprod hbr hu hd hd2 f (j + 1) q.1 c0 _ _ (by omega) (tb_tf f2 hb) s3 u2 l3 (RK_tf f2 hk)⟩
    refine ⟨fun q => ?_, fun q => ⟨fun q2 => ?_, fun q2 => ?_⟩⟩
    · rintro _ rfl; exact go (Or.inl q)
    · rintro _ rfl; exact go (Or.inr q2)
    · rw [if_neg (fun z => z.elim q q2)] at hk
      exact hk I tf_r hs
theorem c_prod {p D : Nat} (hD : 2 ≤ D) (hT : w_tl T n) (hbr : ∀ i, i < n → T i = 40 → w_ub n i (br i)) (hu : w_CS T n 137 p D (p_unit T br)) : w_CS T n 136 p (D + 1) (p_prod T br) := by
  intro d R I L i c hd hb hs hi hc hk
  obtain ⟨d, rfl⟩ : ∃ e, d = e + 1 := ⟨d - 1, by omega⟩
  refine ar_in rfl rfl rfl (r_Text_readProduct_0 ?_)
  refine hu d _ I L i c (by omega) hb hs hi hc ?_
  have h60 := hb.2.1
  have ub := unit_b hT hbr hi
  unfold p_prod at hk
  revert hk ub
  cases e : p_unit T br i with
  | inl x =>
    intro hk ub I' a b
    have := ub.2
    exact ⟨_, _, rfl, rfl, r_Text_readProduct_7 (j := 0) (by have := hD; omega) ⟨fun _ => ⟨fun q => absurd q (bad_n b (by omega)), fun _ => hk I' a b⟩, fun _ => hk I' a b⟩⟩
  | inr q =>
    intro hk ub I' a b
    obtain ⟨u1, u2, u3⟩ := ub
    exact ⟨_, _, rfl, rfl, c_Lprod hbr hu (by omega) (by have := hD; omega) 60 0 q.1 c q.2 I' rfl (tb_tf a hb) b u2 (by rw [List.length_append]; omega) (RK_tf a hk)⟩
theorem c_Lsum {p D : Nat} (hbr : ∀ i, i < n → T i = 40 → w_ub n i (br i)) (hu : w_CS T n 136 p D (p_prod T br)) (hd : D ≤ d) (hd2 : 2 ≤ d) : ∀ f j i c0 c (I : am_V), j + f = 60 → w_tb I T n → w_ts I i (c0 ++ c) → i ≤ n → (c0 ++ c).length ≤ i → w_RK R I L c0 (p_sl T br f i c) → am_Run am_X0 (am_meth d) 135 R 7 [some (.ref 93), some (.int (nI p)), some (.int (nI j)), none] [] (am_mk I L, 0, 0)
  | 0, j, i, c0, c, I, hj, hb, hs, hi, hc, hk => by
    have : j = 60 := by omega
    subst this
    exact r_Text_readSum_7 hd2 ⟨fun q => absurd q (by decide), fun _ => hk I tf_r hs⟩
  | f + 1, j, i, c0, c, I, hj, hb, hs, hi, hc, hk => by
    have h60 := hb.2.1
    have hT := hb.2.2.2.1
    refine r_Text_readSum_7 hd2 ⟨fun _ => ⟨fun _ => ⟨tb_ix hb, ?_⟩, fun q => absurd hs.2.1 q⟩, fun q => absurd (nI_lt (b := 60) (by omega) (by decide)) q⟩
    rw [nx_e hb hs hi]
    unfold p_sl at hk
    have go : (T i = 43 ∨ T i = 45) → am_meth d 136 [.ref 93, .int (nI p)] (am_mk (va_up I 93 (upd (I 93) 3 (I 93 3 + 1))) L, 0, 0) (am_rv (fun I7 L8 => am_ix I7 93 0 61 ∧ am_Run am_X0 (am_meth d) 135 R 7 [some (.ref 93), some (.int (nI p)), some (.int (nI (j + 1))), none] [] (am_mk (w_as I7 (-(T i))) L8, 0, 0))) := by
      intro sg
      rw [if_pos sg] at hk
      have hin : i < n := tl_lt hT (by rcases sg with sg | sg <;> rw [sg] <;> decide)
      have s2 := ts_at hs
      have ub := prod_b hT hbr (i := i + 1) (by omega)
      refine hu d _ _ L (i + 1) (c0 ++ c) hd (tb_tf s2.2 hb) s2.1 (by omega) (by omega) ?_
      revert hk ub
      cases e : p_prod T br (i + 1) with
      | inl x =>
        intro hk ub I' a b
        have := ub.2
        have b2 : w_bad (w_as I' (-(T i))) x := as_bad b
        have f2 : w_tf (w_as I' (-(T i))) I := tf_t as_tf (tf_t a s2.2)
        exact ⟨_, _, rfl, rfl, b.2, r_Text_readSum_7 hd2 ⟨fun _ => ⟨fun q => absurd q (bad_n b2 (by omega)), fun _ => hk _ f2 b2⟩, fun _ => hk _ f2 b2⟩⟩
      | inr q =>
        intro hk ub I' a b
        obtain ⟨u1, u2, u3⟩ := ub
        have lx : (c0 ++ c ++ q.2).length < q.1 := by rw [List.length_append]; omega
        have s3 := ts_as (x := -(T i)) b (by omega)
        have ea : c0 ++ c ++ q.2 ++ [-(T i)] = c0 ++ (c ++ q.2 ++ [-(T i)]) := by simp only [List.append_assoc]
        have f2 : w_tf (w_as I' (-(T i))) I := tf_t as_tf (tf_t a s2.2)
        have l3 : (c0 ++ (c ++ q.2 ++ [-(T i)])).length ≤ q.1 := by rw [← ea, List.length_append]; simp only [List.length_cons, List.length_nil]; omega
        rw [ea] at s3
        exact ⟨_, _, rfl, rfl, ts_ix b (by omega), c_Lsum hbr hu hd hd2 f (j + 1) q.1 c0 _ _ (by omega) (tb_tf f2 hb) s3 u2 l3 (RK_tf f2 hk)⟩
    refine ⟨fun q => ?_, fun q => ⟨fun q2 => ?_, fun q2 => ?_⟩⟩
    · rintro _ rfl; exact go (Or.inl q)
    · rintro _ rfl; exact go (Or.inr q2)
    · rw [if_neg (fun z => z.elim q q2)] at hk
      exact hk I tf_r hs
theorem c_sum {p D : Nat} (hD : 2 ≤ D) (hT : w_tl T n) (hbr : ∀ i, i < n → T i = 40 → w_ub n i (br i)) (hu : w_CS T n 136 p D (p_prod T br)) : w_CS T n 135 p (D + 1) (p_sum T br) := by
  intro d R I L i c hd hb hs hi hc hk
  obtain ⟨d, rfl⟩ : ∃ e, d = e + 1 := ⟨d - 1, by omega⟩
  refine ar_in rfl rfl rfl (r_Text_readSum_0 ?_)
  refine hu d _ I L i c (by omega) hb hs hi hc ?_
  have h60 := hb.2.1
  have ub := prod_b hT hbr hi
  unfold p_sum at hk
  revert hk ub
  cases e : p_prod T br i with
  | inl x =>
    intro hk ub I' a b
    have := ub.2
    exact ⟨_, _, rfl, rfl, r_Text_readSum_7 (j := 0) (by have := hD; omega) ⟨fun _ => ⟨fun q => absurd q (bad_n b (by omega)), fun _ => hk I' a b⟩, fun _ => hk I' a b⟩⟩
  | inr q =>
    intro hk ub I' a b
    obtain ⟨u1, u2, u3⟩ := ub
    exact ⟨_, _, rfl, rfl, c_Lsum hbr hu (by omega) (by have := hD; omega) 60 0 q.1 c q.2 I' rfl (tb_tf a hb) b u2 (by rw [List.length_append]; omega) (RK_tf a hk)⟩
theorem c_bk {p m D : Nat} (hD : 2 ≤ D) (hsum : w_CS T n 135 p D (p_sum T (p_br T m))) : w_CS T n 142 p (D + 1) (p_bk T m) := by
  intro d R I L i c hd hb hs hi hc hk
  obtain ⟨d, rfl⟩ : ∃ e, d = e + 1 := ⟨d - 1, by omega⟩
  have h60 := hb.2.1
  have hT := hb.2.2.2.1
  have hbr := fun j hj h => br_b hT m j hj h
  have ub := sum_b hT hbr hi
  refine ar_in rfl rfl rfl (r_Text_readBracket_0 (by omega) ?_)
  refine hsum d _ I L i c (by omega) hb hs hi hc ?_
  unfold p_bk at hk
  revert hk ub
  cases e1 : p_sum T (p_br T m) i with
  | inl x =>
    exact fun hk ub I' a b => ⟨_, _, rfl, rfl, fun q => absurd q (bad_n b (by have := ub.2; omega)), fun _ => hk I' a b⟩
  | inr q =>
    intro hk ub I' tf ts
    obtain ⟨u1, u2, u3⟩ := ub
    have lc : (c ++ q.2).length ≤ q.1 := by rw [List.length_append]; omega
    have hb1 := tb_tf tf hb
    refine ⟨_, _, rfl, rfl, fun _ => ⟨tb_ix hb1, ?_⟩, fun w => absurd ts.2.1 w⟩
    rw [nx_e hb1 ts u2]
    simp only [] at hk
    have go : (T q.1 = 60 ∨ T q.1 = 61 ∨ T q.1 = 62) → am_meth d 135 [.ref 93, .int (nI p)] (am_mk (va_up I' 93 (upd (I' 93) 3 (I' 93 3 + 1))) L, 0, 0) (am_rv (fun I8 L9 => am_ix I8 93 0 61 ∧ (((w_as I8 (-(T q.1))) 93 4 = (-1 : Int32) → am_ix (w_as I8 (-(T q.1))) 91 0 61 ∧ ((w_nx (w_as I8 (-(T q.1))) = 41 → ∀ I14 : Nat → Nat → Int32, I14 = va_up (w_as I8 (-(T q.1))) 93 (upd ((w_as I8 (-(T q.1))) 93) 3 ((w_as I8 (-(T q.1))) 93 3 + 1)) → R none (am_mk I14 L9, 0, 0)) ∧ (¬ w_nx (w_as I8 (-(T q.1))) = 41 → R none (am_mk (w_fl (w_as I8 (-(T q.1)))) L9, 0, 0)))) ∧ (¬ (w_as I8 (-(T q.1))) 93 4 = (-1 : Int32) → R none (am_mk (w_as I8 (-(T q.1))) L9, 0, 0))))) := by
      intro sr
      rw [if_pos sr] at hk
      have hqn : q.1 < n := tl_lt hT (by rcases sr with sr | sr | sr <;> rw [sr] <;> decide)
      have s2 := ts_at ts
      have f2 : w_tf (va_up I' 93 (upd (I' 93) 3 (I' 93 3 + 1))) I := tf_t s2.2 tf
      have ub2 := sum_b hT hbr (i := q.1 + 1) (by omega)
      refine hsum d _ _ L (q.1 + 1) (c ++ q.2) (by omega) (tb_tf f2 hb) s2.1 (by omega) (by omega) ?_
      revert hk ub2
      cases e2 : p_sum T (p_br T m) (q.1 + 1) with
      | inl x =>
        intro hk ub2 I2 a b
        have := ub2.2
        exact ⟨_, _, rfl, rfl, b.2, fun w => absurd w (bad_n (as_bad b) (by omega)), fun _ => hk _ (tf_t as_tf (tf_t a f2)) (as_bad b)⟩
      | inr r =>
        intro hk ub2 I2 a b
        obtain ⟨v1, v2, v3⟩ := ub2
        have l2 : (c ++ q.2 ++ r.2).length < r.1 := by rw [List.length_append]; omega
        have s3 := ts_as (x := -(T q.1)) b (by omega)
        have f3 : w_tf (w_as I2 (-(T q.1))) I := tf_t as_tf (tf_t a f2)
        have hb3 := tb_tf f3 hb
        refine ⟨_, _, rfl, rfl, ts_ix b (by omega), fun _ => ⟨tb_ix hb3, ?_⟩, fun w => absurd s3.2.1 w⟩
        rw [nx_e hb3 s3 v2]
        simp only [] at hk
        refine ⟨fun w => ?_, fun w => ?_⟩
        · rw [if_pos w] at hk
          rintro _ rfl
          have s4 := ts_at s3
          refine hk _ (tf_t s4.2 f3) ?_
          have ea : c ++ (q.2 ++ r.2 ++ [-(T q.1)]) = c ++ q.2 ++ r.2 ++ [-(T q.1)] := by simp only [List.append_assoc]
          simp only []
          rw [ea]; exact s4.1
        · rw [if_neg w] at hk
          have lx : (c ++ q.2 ++ r.2 ++ [-(T q.1)]).length ≤ 60 := by rw [List.length_append]; simp only [List.length_cons, List.length_nil]; omega
          have fb := fl_bad s3 lx
          exact hk _ (tf_t fb.2 f3) fb.1
    refine ⟨fun w => ?_, fun w => ⟨fun w2 => ?_, fun w2 => ⟨fun w3 => ?_, fun w3 => ⟨tb_ix hb1, fun w4 => ?_, fun w4 => ?_⟩⟩⟩⟩
    · rintro _ rfl; exact go (Or.inl w)
    · rintro _ rfl; exact go (Or.inr (Or.inl w2))
    · rintro _ rfl; exact go (Or.inr (Or.inr w3))
    · rw [if_neg (fun z => by rcases z with z | z | z; exact w z; exact w2 z; exact w3 z), if_pos w4] at hk
      rintro _ rfl
      have s2 := ts_at ts
      exact hk _ (tf_t s2.2 tf) s2.1
    · rw [if_neg (fun z => by rcases z with z | z | z; exact w z; exact w2 z; exact w3 z), if_neg w4] at hk
      have fb := fl_bad ts (by omega)
      exact hk _ (tf_t fb.2 tf) fb.1
theorem c_all (hT : w_tl T n) : ∀ m p, p + m = 5 → w_CS T n 135 p (10 + 4 * m) (p_sum T (p_br T m))
  | 0, p, hp => by
    have u : w_CS T n 137 p 8 (p_unit T (p_br T 0)) := c_unit (D := 7) (by decide) hp (fun m' e => by cases e)
    exact c_sum (by decide) hT (fun j hj h => br_b hT 0 j hj h) (c_prod (by decide) hT (fun j hj h => br_b hT 0 j hj h) u)
  | m + 1, p, hp => by
    have s := c_all hT m (p + 1) (by omega)
    have u : w_CS T n 137 p (10 + 4 * m + 1 + 1) (p_unit T (p_br T (m + 1))) := c_unit (by omega) hp (fun m' e => by cases e; exact c_bk (by omega) s)
    have r := c_sum (by omega) hT (fun j hj h => br_b hT (m + 1) j hj h) (c_prod (by omega) hT (fun j hj h => br_b hT (m + 1) j hj h) u)
    exact fun d R I L i c hd => r d R I L i c (by omega)
theorem ok_Tx_read (hd : 31 ≤ d) (hb : w_tb I T n) (h1 : ∀ x I', p_text T n = .inl x → w_tf I' I → R (some (.int (nI x))) (am_mk I' L, 0, 0)) (h2 : ∀ q I', p_text T n = .inr q → w_tf I' I → w_ts I' q.1 q.2 → R (some (.int (-1))) (am_mk I' L, 0, 0)) : am_meth d 134 [.ref 93] (am_mk I L, 0, 0) R := by
  obtain ⟨d, rfl⟩ : ∃ e, d = e + 1 := ⟨d - 1, by omega⟩
  have h60 := hb.2.1
  have hT := hb.2.2.2.1
  refine ar_in rfl rfl rfl (r_Text_read_0 (by omega) ?_)
  rintro _ rfl _ rfl I5 e5
  have f5 : w_tf I5 I := fun c a b => by rw [e5, am_vat, if_neg a, am_vat, if_neg a, am_vat, if_neg a]
  have s5 : w_ts I5 0 [] := by
    rw [e5]
    exact ⟨rfl, rfl, rfl, fun j x hj => by cases hj⟩
  have ub := sum_b hT (fun j hj h => br_b hT 5 j hj h) (i := 0) (Nat.zero_le _)
  refine c_all hT 5 0 rfl d _ I5 L 0 [] (by omega) (tb_tf f5 hb) s5 (Nat.zero_le _) (Nat.zero_le _) ?_
  unfold p_text at h1 h2
  revert h1 h2 ub
  cases e1 : p_sum T (p_br T 5) 0 with
  | inl x =>
    intro h1 h2 ub I' a b
    have := ub.2
    have nb := bad_n b (by omega)
    have f : w_tf I' I := tf_t a f5
    refine ⟨_, _, rfl, rfl, fun _ => ?_, fun _ => ?_⟩
    · have e : w_fl I' = I' := by unfold w_fl; rw [if_neg nb]
      rw [e, b.1]
      exact h1 x I' rfl f
    · rw [b.1]
      exact h1 x I' rfl f
  | inr q =>
    intro h1 h2 ub I' a b
    obtain ⟨u1, u2, u3⟩ := ub
    have f : w_tf I' I := tf_t a f5
    have b : w_ts I' q.1 q.2 := b
    simp only [] at h1 h2
    have e91 : I' 91 0 = nI n := by rw [f 91 (by decide) (by decide)]; exact hb.1
    refine ⟨_, _, rfl, rfl, fun w => ?_, fun w => ?_⟩
    · rw [b.1, e91, nI_ltI (by omega) (by omega)] at w
      rw [if_pos w] at h1
      have fb := fl_bad b (by omega)
      rw [fb.1.1]
      exact h1 q.1 _ rfl (tf_t fb.2 f)
    · rw [b.1, e91, nI_ltI (by omega) (by omega)] at w
      rw [if_neg w] at h2
      rw [b.2.1]
      exact h2 q I' rfl f b
end TX2
