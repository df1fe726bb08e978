/-! the reference's evaluation, by the parse: each part lays its value -/
def w_fr (l : Nat) (I' : am_V) (L' : Nat → Nat → Int64) (I : am_V) (L : Nat → Nat → Int64) : Prop := (∀ c, c ≠ 140 → c ≠ 142 → c ≠ 143 → I' c = I c) ∧ ∀ j, j < l → I' 140 j = I 140 j ∧ I' 142 j = I 142 j ∧ I' 143 j = I 143 j ∧ L' 139 j = L 139 j ∧ L' 141 j = L 141 j ∧ L' 144 j = L 144 j
theorem fr_r {l : Nat} {I : am_V} {L : Nat → Nat → Int64} : w_fr l I L I L := ⟨fun _ _ _ _ => rfl, fun _ _ => ⟨rfl, rfl, rfl, rfl, rfl, rfl⟩⟩
theorem fr_t {l : Nat} {I I1 I2 : am_V} {L L1 L2 : Nat → Nat → Int64} (h2 : w_fr l I2 L2 I1 L1) (h1 : w_fr l I1 L1 I L) : w_fr l I2 L2 I L := by
  refine ⟨fun c a b e => (h2.1 c a b e).trans (h1.1 c a b e), fun j hj => ?_⟩
  obtain ⟨a1, a2, a3, a4, a5, a6⟩ := h1.2 j hj
  obtain ⟨b1, b2, b3, b4, b5, b6⟩ := h2.2 j hj
  exact ⟨b1.trans a1, b2.trans a2, b3.trans a3, b4.trans a4, b5.trans a5, b6.trans a6⟩
theorem fr_dn {l : Nat} {I I1 : am_V} {L L1 : Nat → Nat → Int64} (h : w_fr (l + 1) I1 L1 I L) : w_fr l I1 L1 I L := ⟨h.1, fun j hj => h.2 j (by omega)⟩
theorem RM_fr {l : Nat} {I I1 V : am_V} {L L1 : Nat → Nat → Int64} (h : w_fr l I1 L1 I L) (hm : RM I V) : RM I1 V := by
  refine ⟨fun c hc => ?_, fun j hj => ?_⟩
  · have hc2 := hc
    simp only [am_pc, decide_eq_true_eq] at hc2
    rw [h.1 c (by omega) (by omega) (by omega)]; exact hm.1 c hc
  · rw [h.1 113 (by decide) (by decide) (by decide)]; exact hm.2 j hj
theorem upd_at {f : Nat → Int32} {k : Nat} {x : Int32} : upd f k x k = x := by unfold upd; rw [if_pos rfl]
theorem upd_ne {f : Nat → Int32} {k j : Nat} {x : Int32} (h : j ≠ k) : upd f k x j = f j := by unfold upd; rw [if_neg h]
theorem updL_at {f : Nat → Int64} {k : Nat} {x : Int64} : vp_updL f k x k = x := by unfold vp_updL; rw [if_pos rfl]
theorem updL_ne {f : Nat → Int64} {k j : Nat} {x : Int64} (h : j ≠ k) : vp_updL f k x j = f j := by unfold vp_updL; rw [if_neg h]
theorem fr_ul {l : Nat} {I : am_V} {L : Nat → Nat → Int64} {v : Int64} : w_fr l I (w_ul I L l v) I L := ⟨fun _ _ _ _ => rfl, fun j hj => ⟨rfl, rfl, rfl, rfl, updL_ne (by omega), rfl⟩⟩
theorem fr_star {l : Nat} {I : am_V} {L : Nat → Nat → Int64} {x : Int32} : w_fr l (va_up I 142 (upd (I 142) l x)) L I L := ⟨fun c _ h _ => by rw [am_vat, if_neg h], fun j hj => ⟨rfl, upd_ne (by omega), rfl, rfl, rfl, rfl⟩⟩
theorem fr_plus {l : Nat} {I : am_V} {L : Nat → Nat → Int64} {x : Int32} {v : Int64} : w_fr l (va_up (va_up I 140 (upd (I 140) l x)) 142 (upd (I 142) l 0)) (va_up L 139 (vp_updL (L 139) l v)) I L := ⟨fun c h1 h _ => by rw [am_vat, if_neg h, am_vat, if_neg h1], fun j hj => ⟨upd_ne (by omega), upd_ne (by omega), rfl, updL_ne (by omega), rfl, rfl⟩⟩
theorem fr_rel {l : Nat} {I : am_V} {L : Nat → Nat → Int64} {x : Int32} {v : Int64} : w_fr l (va_up (va_up (va_up I 143 (upd (I 143) l x)) 140 (upd (I 140) l 0)) 142 (upd (I 142) l 0)) (va_up L 144 (vp_updL (L 144) l v)) I L := ⟨fun c h1 h h3 => by rw [am_vat, if_neg h, am_vat, if_neg h1, am_vat, if_neg h3], fun j hj => ⟨upd_ne (by omega), upd_ne (by omega), upd_ne (by omega), rfl, rfl, updL_ne (by omega)⟩⟩
theorem fr_op {l : Nat} {I : am_V} {L : Nat → Nat → Int64} : w_fr l (w_op I l) L I L := ⟨fun c h1 h h3 => by unfold w_op; rw [am_vat, if_neg h3, am_vat, if_neg h, am_vat, if_neg h1], fun j hj => ⟨upd_ne (by omega), upd_ne (by omega), upd_ne (by omega), rfl, rfl, rfl⟩⟩
theorem val_jn {lt : Nat → Int32} {c c' : List Int32} {a b : Int64} {g : Int32} (hg : -g < 0) (h1 : w_val lt c a) (h2 : w_val lt c' b) : w_val lt (c ++ c' ++ [-g]) (s_held (s_jn g a b)) := by
  intro stk
  rw [fold_app, fold_app, h1, h2]
  show s_stp lt (b :: a :: stk) (-g) = _
  unfold s_stp
  rw [if_pos hg]
  show s_held (s_jn (- -g) a b) :: stk = _
  rw [Int32.neg_neg]
theorem nI_big {y : Nat} (h : y < 100000) : nI y - 100000 < 0 := by
  rw [Int32.lt_iff_toInt_lt, Int32.toInt_sub, nI_toInt (by omega), show (100000 : Int32).toInt = 100000 from rfl, show (0 : Int32).toInt = 0 from rfl, Int.bmod_eq_of_le (by omega) (by omega)]
  omega
theorem val_num {lt : Nat → Int32} {y : Nat} (h : y < 100000) : w_val lt [nI y] (lN y) := by
  intro stk
  show s_stp lt stk (nI y) = _
  unfold s_stp s_un
  rw [if_neg (nI_pos (by omega)), if_pos (nI_big h), nI_l (by omega)]
theorem val_let {lt : Nat → Int32} {j : Nat} (h : j < 10) : w_val lt [100000 + nI j] (lt j).toInt64 := by
  intro stk
  have e : 100000 + nI j = nI (j + 100000) := by rw [← nI_add, Int32.add_comm]; rfl
  have e2 : nI (j + 100000) - 100000 = nI j := by
    rw [← nI_add, show (100000 : Int32) = nI 100000 from rfl, Int32.add_sub_cancel]
  show s_stp lt stk (100000 + nI j) = _
  unfold s_stp s_un
  rw [e, if_neg (nI_pos (by omega)), e2, if_neg (nI_pos (by omega)), if_pos (show nI j < 10 from nI_lt (b := 10) h (by decide)), nI_clamp (by omega)]
theorem jn_star {g : Int32} {a v : Int64} (h : g = 42 ∨ g = 47) : w_un g a v = s_held (s_jn g a v) := by
  rcases h with rfl | rfl
  · have e : s_jn 42 a v = a * v := if_pos rfl
    have e2 : w_un 42 a v = s_held (a * v) := (if_neg (by decide)).trans (if_pos rfl)
    rw [e, e2]
  · have e : s_jn 47 a v = if v = 0 then 0 else a / v := by
      unfold s_jn
      rw [if_neg (show ¬ (47 : Int32) = 42 by decide), if_neg (show ¬ (47 : Int32) = 43 by decide), if_neg (show ¬ (47 : Int32) = 45 by decide), if_pos rfl]
    have e2 : w_un 47 a v = if v = 0 then 0 else s_held (a / v) := (if_neg (by decide)).trans (if_neg (by decide))
    rw [e, e2]
    show (if v = 0 then 0 else s_held (a / v)) = s_held (if v = 0 then 0 else a / v)
    split
    · decide
    · rfl
theorem jn_plus {g : Int32} {a v : Int64} (h : g = 43 ∨ g = 45) : w_tot g a v = s_held (s_jn g a v) := by
  rcases h with rfl | rfl
  · have e : s_jn 43 a v = a + v := (if_neg (by decide)).trans (if_pos rfl)
    have e2 : w_tot 43 a v = s_held (a + v) := by
      unfold w_tot
      rw [if_neg (show ¬ (43 : Int32) = 0 by decide), if_pos rfl]
    rw [e, e2]
  · have e : s_jn 45 a v = a - v := by
      unfold s_jn
      rw [if_neg (show ¬ (45 : Int32) = 42 by decide), if_neg (show ¬ (45 : Int32) = 43 by decide), if_pos rfl]
    have e2 : w_tot 45 a v = s_held (a - v) := by
      unfold w_tot
      rw [if_neg (show ¬ (45 : Int32) = 0 by decide), if_neg (show ¬ (45 : Int32) = 43 by decide)]
    rw [e, e2]
theorem jn_rel {g : Int32} {a v : Int64} (h : g = 60 ∨ g = 61 ∨ g = 62) : w_clo g a v = s_held (s_jn g a v) := by
  rcases h with rfl | rfl | rfl
  · show (if a < v then 1 else 0) = s_held (if a < v then 1 else 0)
    split <;> decide
  · show (if a = v then 1 else 0) = s_held (if a = v then 1 else 0)
    split <;> decide
  · show (if v < a then 1 else 0) = s_held (if v < a then 1 else 0)
    split <;> decide
/-- a unit, a product, a sum: from i on to i', with these steps -/
def w_U (V : am_V) (d t k s l i i' : Nat) (c : List Int32) : Prop := ∃ v, w_val (s_let V k s) c v ∧ ∀ (R : am_R) (I : am_V) (L : Nat → Nat → Int64), RM I V → (∀ I' L', w_fr l I' L' I L → I' 140 l = I 140 l → I' 142 l = I 142 l → I' 143 l = I 143 l → L' 139 l = L 139 l → L' 144 l = L 144 l → L' 141 l = w_un (I 142 l) (L 141 l) v → w_E d t k s l i' R I' L') → w_E d t k s l i R I L
def w_P (V : am_V) (d t k s l i i' : Nat) (c : List Int32) : Prop := ∃ v, w_val (s_let V k s) c v ∧ ∀ (R : am_R) (I : am_V) (L : Nat → Nat → Int64), RM I V → I 142 l = 0 → (∀ I' L', w_fr l I' L' I L → I' 140 l = I 140 l → I' 143 l = I 143 l → L' 139 l = L 139 l → L' 144 l = L 144 l → L' 141 l = v → w_E d t k s l i' R I' L') → w_E d t k s l i R I L
def w_S (V : am_V) (d t k s l i i' : Nat) (c : List Int32) : Prop := ∃ v, w_val (s_let V k s) c v ∧ ∀ (R : am_R) (I : am_V) (L : Nat → Nat → Int64), RM I V → I 140 l = 0 → I 142 l = 0 → (∀ I' L', w_fr l I' L' I L → I' 143 l = I 143 l → L' 144 l = L 144 l → w_tot (I' 140 l) (L' 139 l) (L' 141 l) = v → w_E d t k s l i' R I' L') → w_E d t k s l i R I L
section EV2
variable {d t k s l : Nat} {V : am_V} {br : Nat → p_R}
theorem ev_num (H : w_H V d t k s) (hl : l < 7) : ∀ f i x, i ≤ am_n V 136 t → (x + 1) * 10 ^ f ≤ 100000 → p_dig (w_T V t (p_num (w_T V t) f i (nI x)).1) = false → ∃ y, y < 100000 ∧ (p_num (w_T V t) f i (nI x)).2 = nI y ∧ ∀ (R : am_R) (I : am_V) (L : Nat → Nat → Int64), RM I V → w_E d t k s l (p_num (w_T V t) f i (nI x)).1 R I (w_ul I L l (lN y)) → w_E2 d t k s l i (lN x) R I L
  | 0, i, x, hi, hx, hq => ⟨x, by omega, rfl, fun R I L hm K => ev_d0 H hm hl (Nat.le_trans hi (H_n H).2.2) hq K⟩
  | f + 1, i, x, hi, hx, hq => by
    have h60 := (H_n H).2.2
    by_cases c : p_dig (w_T V t i) = true
    · obtain ⟨g, hg, eg⟩ := dig_e c
      have hi2 := tl_lt T_tl (dig_n c).1
      have hx2 : (x * 10 + g + 1) * 10 ^ f ≤ 100000 := by
        have h1 : (x * 10 + g + 1) * 10 ^ f ≤ ((x + 1) * 10) * 10 ^ f := Nat.mul_le_mul_right _ (by omega)
        rw [Nat.mul_assoc, ← Nat.pow_succ'] at h1
        exact Nat.le_trans h1 hx
      have hx3 : x * 10 + g + 1 ≤ 100000 := Nat.le_trans (Nat.le_mul_of_pos_right _ (Nat.pow_pos (by decide))) hx2
      have ee : nI x * 10 + w_T V t i - 48 = nI (x * 10 + g) := by
        rw [eg, show (10 : Int32) = nI 10 from rfl, show nI x * nI 10 = nI (x * 10) from (Int32.ofNat_mul x 10).symm, nI_add, show x * 10 + (48 + g) = (x * 10 + g) + 48 from by omega, ← nI_add, show (48 : Int32) = nI 48 from rfl, Int32.add_sub_cancel]
      have e1 : p_num (w_T V t) (f + 1) i (nI x) = p_num (w_T V t) f (i + 1) (nI (x * 10 + g)) := by
        rw [p_num, if_pos c, ee]
      rw [e1] at hq ⊢
      obtain ⟨y, hy, e2, ih⟩ := ev_num H hl f (i + 1) (x * 10 + g) (by omega) hx2 hq
      refine ⟨y, hy, e2, fun R I L hm K => ev_d1 H hm c ?_⟩
      have e3 : 10 * lN x + (w_T V t i).toInt64 - 48 = lN (x * 10 + g) := by
        rw [eg, nI_l (by omega)]
        show Int64.ofNat 10 * Int64.ofNat x + Int64.ofNat (48 + g) - Int64.ofNat 48 = Int64.ofNat (x * 10 + g)
        rw [← Int64.ofNat_mul, ← Int64.ofNat_add, show 10 * x + (48 + g) = (x * 10 + g) + 48 from by omega, Int64.ofNat_add, Int64.add_sub_cancel]
      rw [e3]
      exact ih R I L hm K
    · have c0 : p_dig (w_T V t i) = false := Bool.eq_false_iff.mpr c
      have e1 : p_num (w_T V t) (f + 1) i (nI x) = (i, nI x) := by rw [p_num, if_neg c]
      rw [e1]
      have hx3 : x + 1 ≤ 100000 := Nat.le_trans (Nat.le_mul_of_pos_right _ (Nat.pow_pos (by decide))) hx
      exact ⟨x, by omega, rfl, fun R I L hm K => ev_d0 H hm hl (by omega) c0 K⟩
theorem ev_unit (H : w_H V d t k s) (hl : l < 7) (hb : ∀ i q, w_T V t i = 40 → br i = .inr q → w_U V d t k s l i q.1 q.2) {i : Nat} {q : Nat × List Int32} (hi : i ≤ am_n V 136 t) (e : p_unit (w_T V t) br i = .inr q) (hq : p_dig (w_T V t q.1) = false) : w_U V d t k s l i q.1 q.2 := by
  unfold p_unit at e
  split at e
  · rename_i c
    cases e
    obtain ⟨g, hg, eg⟩ := dig_e c
    have hi2 := tl_lt T_tl (dig_n c).1
    have ee : (0 : Int32) * 10 + w_T V t i - 48 = nI g := by
      rw [eg, Int32.zero_mul, Int32.zero_add, Nat.add_comm, ← nI_add, show (48 : Int32) = nI 48 from rfl, Int32.add_sub_cancel]
    have e1 : p_num (w_T V t) 5 i 0 = p_num (w_T V t) 4 (i + 1) (nI g) := by
      rw [p_num, if_pos c, ee]
    rw [e1] at hq ⊢
    obtain ⟨y, hy, e2, ih⟩ := ev_num H hl 4 (i + 1) g (by omega) (by omega) hq
    refine ⟨lN y, by rw [e2]; exact val_num hy, fun R I L hm K => ev_dig H hm c ?_⟩
    have e3 : (w_T V t i - 48).toInt64 = lN g := by
      rw [← nI_l (by omega), eg, Nat.add_comm, ← nI_add, show (48 : Int32) = nI 48 from rfl, Int32.add_sub_cancel]
    rw [e3]
    refine ih R I L hm (K _ _ fr_ul rfl rfl rfl rfl rfl updL_at)
  · split at e
    · rename_i c
      exact hb i q c e
    · split at e
      · rename_i j ej
        cases e
        exact ⟨_, val_let (let_some ej).1, fun R I L hm K => ev_let H hm hl ej (K _ _ fr_ul rfl rfl rfl rfl rfl updL_at)⟩
      · cases e
theorem ev_pl (H : w_H V d t k s) (hl : l < 7) (hb : ∀ i q, w_T V t i = 40 → br i = .inr q → w_U V d t k s l i q.1 q.2) (hb2 : ∀ i, i < am_n V 136 t → w_T V t i = 40 → w_ub (am_n V 136 t) i (br i)) : ∀ f i c q a, w_val (s_let V k s) c a → i ≤ am_n V 136 t → p_pl (w_T V t) br f i c = .inr q → p_dig (w_T V t q.1) = false → ∃ v, w_val (s_let V k s) q.2 v ∧ ∀ (R : am_R) (I : am_V) (L : Nat → Nat → Int64), RM I V → L 141 l = a → (∀ I' L', w_fr l I' L' I L → I' 140 l = I 140 l → I' 143 l = I 143 l → L' 139 l = L 139 l → L' 144 l = L 144 l → L' 141 l = v → w_E d t k s l q.1 R I' L') → w_E d t k s l i R I L
  | 0, i, c, q, a, hc, hi, e, hq => by
    cases e
    exact ⟨a, hc, fun R I L hm ha K => K I L fr_r rfl rfl rfl rfl ha⟩
  | f + 1, i, c, q, a, hc, hi, e, hq => by
    unfold p_pl at e
    split at e
    · rename_i sg
      have hi2 : i < am_n V 136 t := tl_lt T_tl (by rcases sg with sg | sg <;> rw [sg] <;> decide)
      have ng : -(w_T V t i) < 0 := by rcases sg with sg | sg <;> rw [sg] <;> decide
      have ub := unit_b T_tl hb2 (i := i + 1) (by omega)
      cases e2 : p_unit (w_T V t) br (i + 1) with
      | inl x => rw [e2] at e; cases e
      | inr r =>
        rw [e2] at e ub
        obtain ⟨u, hu, ih1⟩ := ev_unit H hl hb (by omega) e2 (pl_dig _ _ _ _ e hq)
        obtain ⟨v, hv, ih2⟩ := ev_pl H hl hb hb2 f r.1 _ q _ (val_jn ng hc hu) ub.2.1 e hq
        refine ⟨v, hv, fun R I L hm ha K => ev_star H hm hl sg ?_⟩
        refine ih1 R _ L (RM_fr (fr_star (l := l) (L := L)) hm) (fun I' L' g1 g2 g3 g4 g5 g6 g7 => ?_)
        have f1 : w_fr l I' L' I L := fr_t g1 fr_star
        refine ih2 R I' L' (RM_fr f1 hm) ?_ (fun I2 L2 k1 k2 k3 k4 k5 k6 => K I2 L2 (fr_t k1 f1) (k2.trans g2) (k3.trans g4) (k4.trans g5) (k5.trans g6) k6)
        rw [g7]
        show w_un (upd (I 142) l (w_T V t i) l) (L 141 l) u = _
        rw [upd_at, ha, jn_star sg]
    · cases e
      exact ⟨a, hc, fun R I L hm ha K => K I L fr_r rfl rfl rfl rfl ha⟩
theorem ev_prod (H : w_H V d t k s) (hl : l < 7) (hb : ∀ i q, w_T V t i = 40 → br i = .inr q → w_U V d t k s l i q.1 q.2) (hb2 : ∀ i, i < am_n V 136 t → w_T V t i = 40 → w_ub (am_n V 136 t) i (br i)) {i : Nat} {q : Nat × List Int32} (hi : i ≤ am_n V 136 t) (e : p_prod (w_T V t) br i = .inr q) (hq : p_dig (w_T V t q.1) = false) : w_P V d t k s l i q.1 q.2 := by
  unfold p_prod at e
  have ub := unit_b T_tl hb2 hi
  cases e2 : p_unit (w_T V t) br i with
  | inl x => rw [e2] at e; cases e
  | inr r =>
    rw [e2] at e ub
    obtain ⟨u, hu, ih1⟩ := ev_unit H hl hb hi e2 (pl_dig _ _ _ _ e hq)
    obtain ⟨v, hv, ih2⟩ := ev_pl H hl hb hb2 60 r.1 _ q _ hu ub.2.1 e hq
    refine ⟨v, hv, fun R I L hm h0 K => ih1 R I L hm (fun I' L' g1 g2 g3 g4 g5 g6 g7 => ?_)⟩
    refine ih2 R I' L' (RM_fr g1 hm) ?_ (fun I2 L2 k1 k2 k3 k4 k5 k6 => K I2 L2 (fr_t k1 g1) (k2.trans g2) (k3.trans g4) (k4.trans g5) (k5.trans g6) k6)
    rw [g7, h0]; unfold w_un; rw [if_pos rfl]
theorem ev_sl (H : w_H V d t k s) (hl : l < 7) (hb : ∀ i q, w_T V t i = 40 → br i = .inr q → w_U V d t k s l i q.1 q.2) (hb2 : ∀ i, i < am_n V 136 t → w_T V t i = 40 → w_ub (am_n V 136 t) i (br i)) : ∀ f i c q a, w_val (s_let V k s) c a → i ≤ am_n V 136 t → p_sl (w_T V t) br f i c = .inr q → p_dig (w_T V t q.1) = false → ∃ v, w_val (s_let V k s) q.2 v ∧ ∀ (R : am_R) (I : am_V) (L : Nat → Nat → Int64), RM I V → w_tot (I 140 l) (L 139 l) (L 141 l) = a → (∀ I' L', w_fr l I' L' I L → I' 143 l = I 143 l → L' 144 l = L 144 l → w_tot (I' 140 l) (L' 139 l) (L' 141 l) = v → w_E d t k s l q.1 R I' L') → w_E d t k s l i R I L
  | 0, i, c, q, a, hc, hi, e, hq => by
    cases e
    exact ⟨a, hc, fun R I L hm ha K => K I L fr_r rfl rfl ha⟩
  | f + 1, i, c, q, a, hc, hi, e, hq => by
    unfold p_sl at e
    split at e
    · rename_i sg
      have hi2 : i < am_n V 136 t := tl_lt T_tl (by rcases sg with sg | sg <;> rw [sg] <;> decide)
      have ng : -(w_T V t i) < 0 := by rcases sg with sg | sg <;> rw [sg] <;> decide
      have ub := prod_b T_tl hb2 (i := i + 1) (by omega)
      cases e2 : p_prod (w_T V t) br (i + 1) with
      | inl x => rw [e2] at e; cases e
      | inr r =>
        rw [e2] at e ub
        obtain ⟨u, hu, ih1⟩ := ev_prod H hl hb hb2 (by omega) e2 (sl_dig _ _ _ _ e hq)
        obtain ⟨v, hv, ih2⟩ := ev_sl H hl hb hb2 f r.1 _ q _ (val_jn ng hc hu) ub.2.1 e hq
        refine ⟨v, hv, fun R I L hm ha K => ev_plus H hm hl sg ?_⟩
        refine ih1 R _ _ (RM_fr (fr_plus (l := l) (L := L) (v := 0)) hm) upd_at (fun I' L' g1 g2 g4 g5 g6 g7 => ?_)
        have f1 : w_fr l I' L' I L := fr_t g1 fr_plus
        refine ih2 R I' L' (RM_fr f1 hm) ?_ (fun I2 L2 k1 k3 k5 k6 => K I2 L2 (fr_t k1 f1) (k3.trans g4) (k5.trans g6) k6)
        have g2 : I' 140 l = w_T V t i := g2.trans upd_at
        have g5 : L' 139 l = w_tot (I 140 l) (L 139 l) (L 141 l) := g5.trans updL_at
        rw [g2, g5, g7, ha, jn_plus sg]
    · cases e
      exact ⟨a, hc, fun R I L hm ha K => K I L fr_r rfl rfl ha⟩
theorem ev_sum (H : w_H V d t k s) (hl : l < 7) (hb : ∀ i q, w_T V t i = 40 → br i = .inr q → w_U V d t k s l i q.1 q.2) (hb2 : ∀ i, i < am_n V 136 t → w_T V t i = 40 → w_ub (am_n V 136 t) i (br i)) {i : Nat} {q : Nat × List Int32} (hi : i ≤ am_n V 136 t) (e : p_sum (w_T V t) br i = .inr q) (hq : p_dig (w_T V t q.1) = false) : w_S V d t k s l i q.1 q.2 := by
  unfold p_sum at e
  have ub := prod_b T_tl hb2 hi
  cases e2 : p_prod (w_T V t) br i with
  | inl x => rw [e2] at e; cases e
  | inr r =>
    rw [e2] at e ub
    obtain ⟨u, hu, ih1⟩ := ev_prod H hl hb hb2 hi e2 (sl_dig _ _ _ _ e hq)
    obtain ⟨v, hv, ih2⟩ := ev_sl H hl hb hb2 60 r.1 _ q _ hu ub.2.1 e hq
    refine ⟨v, hv, fun R I L hm h0 h2 K => ih1 R I L hm h2 (fun I' L' g1 g2 g4 g5 g6 g7 => ?_)⟩
    refine ih2 R I' L' (RM_fr g1 hm) ?_ (fun I2 L2 k1 k3 k5 k6 => K I2 L2 (fr_t k1 g1) (k3.trans g4) (k5.trans g6) k6)
    rw [g2, h0, g7]; unfold w_tot; rw [if_pos rfl]
theorem ev_br (H : w_H V d t k s) : ∀ m l i q, l + m ≤ 5 → w_T V t i = 40 → p_br (w_T V t) m i = .inr q → w_U V d t k s l i q.1 q.2
  | 0, l, i, q, _, _, e => by cases e
  | m + 1, l, i, q, hlm, h40, e => by
    have hi2 : i < am_n V 136 t := tl_lt T_tl (by rw [h40]; decide)
    have hb := fun i q h e => ev_br H m (l + 1) i q (by omega) h e
    have hb2 := fun j hj h => br_b (T_tl (V := V) (t := t)) m j hj h
    have ub := sum_b T_tl hb2 (i := i + 1) (by omega)
    have hl : l + 1 < 7 := by omega
    unfold p_br at e
    cases e2 : p_sum (w_T V t) (p_br (w_T V t) m) (i + 1) with
    | inl x => rw [e2] at e; cases e
    | inr r =>
      rw [e2] at e ub
      simp only [] at e
      split at e
      · rename_i sr
        have hq : p_dig (w_T V t r.1) = false := by rcases sr with sr | sr | sr <;> rw [sr] <;> decide
        have hr2 : r.1 < am_n V 136 t := tl_lt T_tl (by rcases sr with sr | sr | sr <;> rw [sr] <;> decide)
        have ng : -(w_T V t r.1) < 0 := by rcases sr with sr | sr | sr <;> rw [sr] <;> decide
        obtain ⟨a, ha, ih1⟩ := ev_sum H hl hb hb2 (by omega) e2 hq
        cases e3 : p_sum (w_T V t) (p_br (w_T V t) m) (r.1 + 1) with
        | inl x => rw [e3] at e; cases e
        | inr r2 =>
          rw [e3] at e
          simp only [] at e
          split at e
          · rename_i s41
            cases e
            obtain ⟨b, hbv, ih2⟩ := ev_sum H hl hb hb2 (by omega) e3 (by rw [s41]; decide)
            refine ⟨_, val_jn ng ha hbv, fun R I L hm K => ev_open H hm hl h40 ?_⟩
            refine ih1 R _ L (RM_fr (fr_op (l := l + 1) (L := L)) hm) upd_at upd_at (fun I' L' g1 g4 g6 g7 => ?_)
            have f1 : w_fr (l + 1) I' L' I L := fr_t g1 fr_op
            refine ev_rel H (RM_fr f1 hm) hl sr ?_
            refine ih2 R _ _ (RM_fr (fr_t (fr_rel (l := l + 1) (L := L') (v := 0)) f1) hm) upd_at upd_at (fun I2 L2 k1 k4 k6 k7 => ?_)
            have f2 : w_fr (l + 1) I2 L2 I L := fr_t k1 (fr_t fr_rel f1)
            refine ev_close H (RM_fr f2 hm) hl s41 ?_
            have k4 : I2 143 (l + 1) = w_T V t r.1 := k4.trans upd_at
            have k6 : L2 144 (l + 1) = a := k6.trans (updL_at.trans g7)
            rw [k4, k6, k7, jn_rel sr]
            obtain ⟨m1, m2, m3, m4, m5, m6⟩ := f2.2 l (by omega)
            refine K _ _ (fr_t fr_ul (fr_dn f2)) m1 m2 m3 m4 m6 ?_
            unfold w_ul
            rw [m2, m5]; exact updL_at
          · cases e
      · split at e
        · rename_i s41
          cases e
          obtain ⟨a, ha, ih1⟩ := ev_sum H hl hb hb2 (by omega) e2 (by rw [s41]; decide)
          refine ⟨a, ha, fun R I L hm K => ev_open H hm hl h40 ?_⟩
          refine ih1 R _ L (RM_fr (fr_op (l := l + 1) (L := L)) hm) upd_at upd_at (fun I' L' g1 g4 g6 g7 => ?_)
          have f1 : w_fr (l + 1) I' L' I L := fr_t g1 fr_op
          refine ev_close H (RM_fr f1 hm) hl s41 ?_
          have g4 : I' 143 (l + 1) = 0 := g4.trans upd_at
          rw [g4, g7, show w_clo 0 (L' 144 (l + 1)) a = a from if_pos rfl]
          obtain ⟨m1, m2, m3, m4, m5, m6⟩ := f1.2 l (by omega)
          refine K _ _ (fr_t fr_ul (fr_dn f1)) m1 m2 m3 m4 m6 ?_
          unfold w_ul
          rw [m2, m5]; exact updL_at
        · cases e
/-- a whole text -/
theorem ev_text (H : w_H V d t k s) {code : List Int32} (e : p_text (w_T V t) (am_n V 136 t) = .inr (am_n V 136 t, code)) : ∃ v, w_val (s_let V k s) code v ∧ ∀ (R : am_R) (I : am_V) (L : Nat → Nat → Int64), RM I V → (∀ I' L', RM I' V → w_mf I' I → R (some (.long v)) (am_mk I' L', 0, 0)) → am_meth (d + 1) 174 [.ref 113, .int (nI t), .int (nI k), .int (nI s)] (am_mk I L, 0, 0) R := by
  have h3 := (H_n H).2.2
  have hd := H.2.2.2.2
  unfold p_text at e
  cases e2 : p_sum (w_T V t) (p_br (w_T V t) 5) 0 with
  | inl x => rw [e2] at e; cases e
  | inr q =>
    rw [e2] at e
    simp only [] at e
    split at e
    · cases e
    · cases e
      obtain ⟨v, hv, ih⟩ := ev_sum (l := 0) H (by decide) (fun i q h e => ev_br H 5 0 i q (by decide) h e) (fun j hj h => br_b T_tl 5 j hj h) (Nat.zero_le _) e2 (by rw [T_tl _ (Nat.le_refl _)]; decide)
      refine ⟨v, hv, fun R I L hm K => ar_in rfl rfl rfl (r_M_evaluated_0 (by omega) ⟨by decide, ?_⟩)⟩
      refine ih R _ L (RM_fr (fr_op (l := 0) (L := L)) hm) rfl rfl (fun I' L' g1 g4 g6 g7 => ?_)
      have f1 : w_fr 0 I' L' I L := fr_t g1 fr_op
      refine ev_end H (RM_fr f1 hm) (Nat.le_refl _) h3 ?_
      rw [g7]
      exact K I' L' (RM_fr f1 hm) (fun c hc => f1.1 c (by omega) (by omega) (by omega))
end EV2
