/-! the reference's fault -/
def w_TF (d : Nat) (b : Int32) (l j : Nat) (R : am_R) (I : am_V) (L : Nat → Nat → Int64) : Prop := am_Run am_X0 (am_meth d) 197 R 6 [some (.ref 113), some (.int b), some (.int (nI l)), some (.int (nI j)), none, none] [] (am_mk I L, 0, 0)
def w_lf (I' I : am_V) : Prop := ∀ c, c ≠ 138 → I' c = I c
def w_lv (l : Nat) (I' I : am_V) : Prop := ∀ j, j ≤ l → I' 138 j = I 138 j
def w_FK (d l : Nat) (R : am_R) (I : am_V) (L : Nat → Nat → Int64) : p_R → Prop
  | .inl x => ∀ I', w_lf I' I → R (some (.int (nI x))) (am_mk I' L, 0, 0)
  | .inr q => ∀ I', w_lf I' I → w_lv l I' I → w_TF d 1 l q.1 R I' L
/-- the tape as the reference has it -/
def w_mb (I : am_V) (T : Nat → Int32) (n : Nat) : Prop := I 113 24 = nI n ∧ n ≤ 60 ∧ (∀ j, j < n → I 133 j = T j) ∧ w_tl T n
section FT
variable {d l i : Nat} {I I1 V : am_V} {L : Nat → Nat → Int64} {R : am_R} {T : Nat → Int32} {n : Nat} {br : Nat → p_R}
theorem lf_r : w_lf I I := fun _ _ => rfl
theorem lf_t {I2 : am_V} (h2 : w_lf I2 I1) (h1 : w_lf I1 I) : w_lf I2 I := fun c a => (h2 c a).trans (h1 c a)
theorem lv_r : w_lv l I I := fun _ _ => rfl
theorem lv_t {I2 : am_V} (h2 : w_lv l I2 I1) (h1 : w_lv l I1 I) : w_lv l I2 I := fun c a => (h2 c a).trans (h1 c a)
theorem mb_lf (h : w_lf I1 I) (hb : w_mb I T n) : w_mb I1 T n := by
  obtain ⟨a, b, c, e⟩ := hb
  refine ⟨by rw [h 113 (by decide)]; exact a, b, fun j hj => by rw [h 133 (by decide)]; exact c j hj, e⟩
theorem FK_lf {r : p_R} (h : w_lf I1 I) (h2 : w_lv l I1 I) (hk : w_FK d l R I L r) : w_FK d l R I1 L r := by
  cases r with
  | inl x => exact fun I' a => hk I' (lf_t a h)
  | inr q => exact fun I' a b => hk I' (lf_t a h) (lv_t b h2)
/-- a sign -/
theorem f_sign (hd : 1 ≤ d) (hb : w_mb I T n) (hs : (T i = 43 ∨ T i = 45) ∨ T i = 42 ∨ T i = 47) (hk : w_TF d 0 l (i + 1) R I L) : w_TF d 1 l i R I L := by
  obtain ⟨a, b, c, e⟩ := hb
  have hi : i < n := tl_lt e (by rcases hs with (s | s) | s | s <;> rw [s] <;> decide)
  refine r_M_fault_6 hd ⟨fun _ => ⟨by omega, fun q => absurd q (by decide), fun _ => ⟨fun _ => hk, fun q => ?_⟩⟩, fun q => absurd (by rw [a]; exact nI_lt hi (by omega)) q⟩
  rw [c i hi] at q; exact absurd hs q
theorem f_num (hd : 1 ≤ d) (hb : w_mb I T n) (hl : p_let (T i) = none) (hi : i ≤ n) : ∀ f m a, m + f = 5 → i + m ≤ n → (i + m = (p_num T f (i + m) a).1 → m = 0 → R (some (.int (nI i))) (am_mk I L, 0, 0)) → (¬ ((p_num T f (i + m) a).1 = i) → w_TF d 1 l (p_num T f (i + m) a).1 R I L) → am_Run am_X0 (am_meth d) 197 R 76 [some (.ref 113), some (.int 0), some (.int (nI l)), some (.int (nI i)), some (.int (T i)), some (.int (nI m))] [] (am_mk I L, 0, 0)
  | 0, m, a, hm, hn, h0, h1 => by
    have : m = 5 := by omega
    subst this
    refine r_M_fault_76 hd ⟨fun q => absurd q (by rw [hl]; decide), fun _ => ⟨fun q => absurd q (by decide), fun _ => ⟨fun q => absurd q (by decide), fun _ => ?_⟩⟩⟩
    rw [nI_add]
    exact h1 (by show ¬ i + 5 = i; omega)
  | f + 1, m, a, hm, hn, h0, h1 => by
    obtain ⟨ea, eb, ec, ee⟩ := hb
    have fin : p_dig (T (i + m)) = false → ((nI m = 0 → R (some (.int (nI i))) (am_mk I L, 0, 0)) ∧ (¬ nI m = 0 → am_Run am_X0 (am_meth d) 197 R 6 [some (.ref 113), some (.int 1), some (.int (nI l)), some (.int (nI i + nI m)), none, none] [] (am_mk I L, 0, 0))) := by
      intro q
      have e1 : (p_num T (f + 1) (i + m) a).1 = i + m := by rw [p_num, if_neg (by rw [q]; decide)]
      refine ⟨fun z => h0 e1.symm ?_, fun z => ?_⟩
      · rcases Nat.eq_zero_or_pos m with w | w
        · exact w
        · exact absurd z (nI_ne0 w (by omega))
      · rw [nI_add, ← e1]
        refine h1 (fun w => z ?_)
        rw [e1] at w
        rw [show m = 0 from by omega]; rfl
    refine r_M_fault_76 hd ⟨fun q => absurd q (by rw [hl]; decide), fun _ => ⟨fun _ => ⟨fun q => ?_, fun q => ?_⟩, fun q => absurd (nI_lt (b := 5) (by omega) (by decide)) q⟩⟩
    · rw [nI_add, ea, nI_ltI (by omega) (by omega)] at q
      refine ⟨i + m, by omega, nI_add _ _, ?_⟩
      rw [ec (i + m) q]
      refine ⟨fun w => ?_, fun w => fin (Bool.eq_false_iff.mpr w)⟩
      have e1 : p_num T (f + 1) (i + m) a = p_num T f (i + (m + 1)) (a * 10 + T (i + m) - 48) := by rw [p_num, if_pos w]; rfl
      rw [e1] at h0 h1
      refine f_num hd ⟨ea, eb, ec, ee⟩ hl hi f (m + 1) _ (by omega) (by omega) (fun _ z => absurd z (by omega)) h1
    · rw [nI_add, ea, nI_ltI (by omega) (by omega)] at q
      exact fin (by rw [ee (i + m) (by omega)]; decide)
theorem f_end (hd : 1 ≤ d) (hb : w_mb I T n) (hin : n = i) (hk : R (some (.int (nI i))) (am_mk I L, 0, 0)) {b : Int32} (h : b = 0 ∨ 0 < l) (hl : l < 7) : w_TF d b l i R I L := by
  obtain ⟨ea, eb, ec, ee⟩ := hb
  refine r_M_fault_6 hd ⟨fun q => absurd (ea ▸ q) (nI_nlt (by omega) (by omega)), fun _ => ?_⟩
  rw [ea, hin]
  refine ⟨fun q => ⟨fun _ => hk, fun q2 => ?_⟩, fun _ => hk⟩
  rcases h with h | h
  · exact absurd h q2
  · exact absurd q (nI_nle h (by omega))
theorem f_unit (hd : 1 ≤ d) (hb : w_mb I T n) (hl : l < 7) (hi : i ≤ n) (hbr : T i = 40 → w_FK d l R I L (br i) → w_TF d 0 l i R I L) (hk : w_FK d l R I L (p_unit T br i)) : w_TF d 0 l i R I L := by
  have hb' := hb
  obtain ⟨ea, eb, ec, ee⟩ := hb'
  unfold p_unit at hk
  by_cases hin : i < n
  · by_cases c40 : T i = 40
    · rw [if_neg (by rw [c40]; decide), if_pos c40] at hk
      exact hbr c40 hk
    · refine r_M_fault_6 hd ⟨fun _ => ⟨by omega, fun _ => ⟨fun q => absurd (by rw [← ec i hin]; exact q) c40, fun _ => ?_⟩, fun q => absurd rfl q⟩, fun q => absurd (by rw [ea]; exact nI_lt hin (by omega)) q⟩
      rw [ec i hin]
      refine ⟨fun w => ?_, fun w => ?_⟩
      · obtain ⟨j, ej⟩ := Option.isSome_iff_exists.mp w
        have nn := let_n ej
        rw [if_neg (by rw [nn.2.2.2.2.2.2.2.2.2.2]; decide), if_neg c40, ej] at hk
        refine r_M_fault_76 (m := 1) hd ⟨fun _ => ⟨fun q => absurd q (by decide), fun _ => ?_⟩, fun q => absurd w q⟩
        show am_Run am_X0 (am_meth d) 197 R 6 [some (.ref 113), some (.int 1), some (.int (nI l)), some (.int (nI i + nI 1)), none, none] [] (am_mk I L, 0, 0)
        rw [nI_add]
        exact hk I lf_r lv_r
      · have e0 : p_let (T i) = none := by
          cases e : p_let (T i) with
          | none => rfl
          | some j => rw [e] at w; exact absurd rfl w
        by_cases cd : p_dig (T i) = true
        · rw [if_pos cd] at hk
          have nb := num_b1 (f := 4) (a := 0) ee cd
          have nb : i + 1 ≤ (p_num T 5 i 0).1 := nb.1
          refine f_num hd hb e0 hi 5 0 0 rfl hi (fun z _ => ?_) (fun _ => hk I lf_r lv_r)
          have z : i = (p_num T 5 i 0).1 := z
          omega
        · rw [if_neg cd, if_neg c40, e0] at hk
          refine f_num hd hb e0 hi 5 0 0 rfl hi (fun _ _ => hk I lf_r) (fun z => ?_)
          refine absurd ?_ z
          show (p_num T 5 i 0).1 = i
          rw [p_num, if_neg cd]
  · have e1 : T i = -1 := ee i (by omega)
    rw [e1, if_neg (by decide), if_neg (by decide), show p_let (-1) = none from by decide] at hk
    exact f_end hd hb (by omega) (hk I lf_r) (Or.inl rfl) hl
theorem f_pl (hd : 1 ≤ d) (hT : w_tl T n) (hl : l < 7) (hbb : ∀ i, i < n → T i = 40 → w_ub n i (br i)) (hbr : ∀ i I, w_mb I T n → T i = 40 → w_FK d l R I L (br i) → w_TF d 0 l i R I L) : ∀ f i c I, w_mb I T n → i ≤ n → w_FK d l R I L (p_pl T br f i c) → w_TF d 1 l i R I L
  | 0, i, c, I, hb, hi, hk => hk I lf_r lv_r
  | f + 1, i, c, I, hb, hi, hk => by
    unfold p_pl at hk
    by_cases sg : T i = 42 ∨ T i = 47
    · rw [if_pos sg] at hk
      have hin : i < n := tl_lt hT (by rcases sg with sg | sg <;> rw [sg] <;> decide)
      have ub := unit_b hT hbb (i := i + 1) (by omega)
      refine f_sign hd hb (Or.inr sg) (f_unit hd hb hl (by omega) (hbr (i + 1) I hb) ?_)
      revert hk ub
      cases p_unit T br (i + 1) with
      | inl x => exact fun hk ub => hk
      | inr q => exact fun hk ub I' a b => f_pl hd hT hl hbb hbr f q.1 _ I' (mb_lf a hb) ub.2.1 (FK_lf a b hk)
    · rw [if_neg sg] at hk
      exact hk I lf_r lv_r
theorem f_prod (hd : 1 ≤ d) (hT : w_tl T n) (hl : l < 7) (hbb : ∀ i, i < n → T i = 40 → w_ub n i (br i)) (hbr : ∀ i I, w_mb I T n → T i = 40 → w_FK d l R I L (br i) → w_TF d 0 l i R I L) (hb : w_mb I T n) (hi : i ≤ n) (hk : w_FK d l R I L (p_prod T br i)) : w_TF d 0 l i R I L := by
  have ub := unit_b hT hbb hi
  refine f_unit hd hb hl hi (hbr i I hb) ?_
  unfold p_prod at hk
  revert hk ub
  cases p_unit T br i with
  | inl x => exact fun hk ub => hk
  | inr q => exact fun hk ub I' a b => f_pl hd hT hl hbb hbr 60 q.1 _ I' (mb_lf a hb) ub.2.1 (FK_lf a b hk)
theorem f_sl (hd : 1 ≤ d) (hT : w_tl T n) (hl : l < 7) (hbb : ∀ i, i < n → T i = 40 → w_ub n i (br i)) (hbr : ∀ i I, w_mb I T n → T i = 40 → w_FK d l R I L (br i) → w_TF d 0 l i R I L) : ∀ f i c I, w_mb I T n → i ≤ n → w_FK d l R I L (p_sl T br f i c) → w_TF d 1 l i R I L
  | 0, i, c, I, hb, hi, hk => hk I lf_r lv_r
  | f + 1, i, c, I, hb, hi, hk => by
    unfold p_sl at hk
    by_cases sg : T i = 43 ∨ T i = 45
    · rw [if_pos sg] at hk
      have hin : i < n := tl_lt hT (by rcases sg with sg | sg <;> rw [sg] <;> decide)
      have ub := prod_b hT hbb (i := i + 1) (by omega)
      refine f_sign hd hb (Or.inl sg) (f_prod hd hT hl hbb hbr hb (by omega) ?_)
      revert hk ub
      cases p_prod T br (i + 1) with
      | inl x => exact fun hk ub => hk
      | inr q => exact fun hk ub I' a b => f_sl hd hT hl hbb hbr f q.1 _ I' (mb_lf a hb) ub.2.1 (FK_lf a b hk)
    · rw [if_neg sg] at hk
      exact hk I lf_r lv_r
theorem f_sum (hd : 1 ≤ d) (hT : w_tl T n) (hl : l < 7) (hbb : ∀ i, i < n → T i = 40 → w_ub n i (br i)) (hbr : ∀ i I, w_mb I T n → T i = 40 → w_FK d l R I L (br i) → w_TF d 0 l i R I L) (hb : w_mb I T n) (hi : i ≤ n) (hk : w_FK d l R I L (p_sum T br i)) : w_TF d 0 l i R I L := by
  have ub := prod_b hT hbb hi
  refine f_prod hd hT hl hbb hbr hb hi ?_
  unfold p_sum at hk
  revert hk ub
  cases p_prod T br i with
  | inl x => exact fun hk ub => hk
  | inr q => exact fun hk ub I' a b => f_sl hd hT hl hbb hbr 60 q.1 _ I' (mb_lf a hb) ub.2.1 (FK_lf a b hk)
/-- behind a unit, and the text ends there or a bracket closes -/
theorem f_stop (hd : 1 ≤ d) (hb : w_mb I T n) (hl : 0 < l) (hl7 : l < 7) (hi : i ≤ n) (hs : ¬ ((T i = 43 ∨ T i = 45) ∨ T i = 42 ∨ T i = 47)) (hr : (T i = 60 ∨ T i = 61 ∨ T i = 62) → ¬ I 138 l = 0) (hc : T i = 41 → w_TF d 1 (l - 1) (i + 1) R I L) (hk : ¬ T i = 41 → R (some (.int (nI i))) (am_mk I L, 0, 0)) : w_TF d 1 l i R I L := by
  have hb' := hb
  obtain ⟨ea, eb, ec, ee⟩ := hb'
  obtain ⟨l, rfl⟩ : ∃ l', l = l' + 1 := ⟨l - 1, by omega⟩
  have hc : T i = 41 → w_TF d 1 l (i + 1) R I L := hc
  by_cases hin : i < n
  · refine r_M_fault_6 hd ⟨fun _ => ⟨by omega, fun q => absurd q (by decide), fun _ => ?_⟩, fun q => absurd (by rw [ea]; exact nI_lt hin (by omega)) q⟩
    rw [ec i hin, nI_m1]
    have nl : ¬ nI (l + 1) ≤ 0 := nI_nle (by omega) (by omega)
    refine ⟨fun q => absurd q hs, fun _ => ⟨fun q => ⟨fun q2 => absurd q2 nl, fun _ => ⟨hl7, fun q2 => absurd q2 (hr q), fun _ => ⟨fun q3 => hc q3, fun q3 => hk q3⟩⟩⟩, fun q => ⟨fun q3 => ⟨fun q2 => absurd q2 nl, fun _ => hc q3⟩, fun q3 => hk q3⟩⟩⟩
  · have e1 : T i = -1 := ee i (by omega)
    exact f_end hd hb (by omega) (hk (by rw [e1]; decide)) (Or.inr hl) hl7
theorem f_br (hd : 1 ≤ d) (hT : w_tl T n) (h60 : n ≤ 60) : ∀ m l i I, l + m = 5 → w_mb I T n → T i = 40 → w_FK d l R I L (p_br T m i) → w_TF d 0 l i R I L
  | 0, l, i, I, hlm, hb, h40, hk => by
    have hb' := hb
    obtain ⟨ea, eb, ec, ee⟩ := hb'
    have hin : i < n := tl_lt hT (by rw [h40]; decide)
    have : l = 5 := by omega
    subst this
    refine r_M_fault_6 hd ⟨fun _ => ⟨by omega, fun _ => ⟨fun _ => ⟨fun _ => hk I lf_r, fun q => absurd rfl q⟩, fun q => absurd (by rw [ec i hin]; exact h40) q⟩, fun q => absurd rfl q⟩, fun q => absurd (by rw [ea]; exact nI_lt hin (by omega)) q⟩
  | m + 1, l, i, I, hlm, hb, h40, hk => by
    have hb' := hb
    obtain ⟨ea, eb, ec, ee⟩ := hb'
    have hin : i < n := tl_lt hT (by rw [h40]; decide)
    have hbb := fun j hj h => br_b hT m j hj h
    have ub := sum_b hT hbb (i := i + 1) (by omega)
    have hbr := fun i I hb h hk => f_br hd hT h60 m (l + 1) i I (by omega) hb h hk
    refine r_M_fault_6 hd ⟨fun _ => ⟨by omega, fun _ => ⟨fun _ => ⟨fun q => absurd ((nI_eq (b := 5) (by omega) (by decide)).mp q) (by omega), fun _ => ⟨by omega, ?_⟩⟩, fun q => absurd (by rw [ec i hin]; exact h40) q⟩, fun q => absurd rfl q⟩, fun q => absurd (by rw [ea]; exact nI_lt hin (by omega)) q⟩
    rintro _ rfl
    have f1 : w_lf (va_up I 138 (upd (I 138) (l + 1) (vp_nar .boolean 0))) I := fun c h => by rw [am_vat, if_neg h]
    have v1 : w_lv l (va_up I 138 (upd (I 138) (l + 1) (vp_nar .boolean 0))) I := fun j h => upd_ne (by omega)
    refine f_sum hd hT (by omega) hbb hbr (mb_lf f1 hb) (by omega) ?_
    unfold p_br at hk
    revert hk ub
    cases e1 : p_sum T (p_br T m) (i + 1) with
    | inl x => exact fun ub hk I' a => hk I' (lf_t a f1)
    | inr q =>
      intro ub hk I2 a b
      obtain ⟨u1, u2, u3⟩ := ub
      have se := sum_end hT h60 hbb (by omega) e1
      have f2 : w_lf I2 I := lf_t a f1
      have v2 : w_lv l I2 I := fun j h => (b j (by omega)).trans (v1 j h)
      have z2 : I2 138 (l + 1) = 0 := (b (l + 1) (by omega)).trans upd_at
      have hb2 := mb_lf f2 hb
      simp only [] at hk
      by_cases sr : T q.1 = 60 ∨ T q.1 = 61 ∨ T q.1 = 62
      · rw [if_pos sr] at hk
        have hqn : q.1 < n := tl_lt hT (by rcases sr with sr | sr | sr <;> rw [sr] <;> decide)
        have ub' := sum_b hT hbb (i := q.1 + 1) (by omega)
        have go : w_TF d 0 (l + 1) (q.1 + 1) R (va_up I2 138 (upd (I2 138) (l + 1) (vp_nar .boolean 1))) L := by
          have f3 : w_lf (va_up I2 138 (upd (I2 138) (l + 1) (vp_nar .boolean 1))) I := fun c h => by rw [am_vat, if_neg h]; exact f2 c h
          have v3 : w_lv l (va_up I2 138 (upd (I2 138) (l + 1) (vp_nar .boolean 1))) I := fun j h => (upd_ne (by omega)).trans (v2 j h)
          refine f_sum hd hT (by omega) hbb hbr (mb_lf f3 hb) (by omega) ?_
          revert hk ub'
          cases e2 : p_sum T (p_br T m) (q.1 + 1) with
          | inl x => exact fun hk ub' I' a => hk I' (lf_t a f3)
          | inr r =>
            intro hk ub' I4 a4 b4
            obtain ⟨w1, w2, w3⟩ := ub'
            have se2 := sum_end hT h60 hbb (by omega) e2
            have f4 : w_lf I4 I := lf_t a4 f3
            have v4 : w_lv l I4 I := fun j h => (b4 j (by omega)).trans (v3 j h)
            have z4 : I4 138 (l + 1) = 1 := (b4 (l + 1) (by omega)).trans upd_at
            simp only [] at hk
            refine f_stop hd (mb_lf f4 hb) (by omega) (by omega) w2 se2 (fun _ => by rw [z4]; decide) (fun q4 => ?_) (fun q4 => ?_)
            · rw [if_pos q4] at hk
              exact hk I4 f4 v4
            · rw [if_neg q4] at hk
              exact hk I4 f4
        refine r_M_fault_6 hd ⟨fun _ => ⟨by omega, fun q => absurd q (by decide), fun _ => ?_⟩, fun w => absurd (by rw [hb2.1]; exact nI_lt hqn (by omega)) w⟩
        rw [hb2.2.2.1 q.1 hqn]
        refine ⟨fun w => absurd w se, fun _ => ⟨fun _ => ⟨fun w => absurd w (nI_nle (by omega) (by omega)), fun _ => ⟨by omega, fun _ => ?_, fun w => absurd z2 w⟩⟩, fun w => absurd sr w⟩⟩
        rintro _ rfl
        exact go
      · rw [if_neg sr] at hk
        refine f_stop hd hb2 (by omega) (by omega) u2 se (fun w => absurd w sr) (fun q4 => ?_) (fun q4 => ?_)
        · rw [if_pos q4] at hk
          exact hk I2 f2 v2
        · rw [if_neg q4] at hk
          exact hk I2 f2
theorem ok_M_fault (hd : 2 ≤ d) (hb : w_mb I T n) (h : ∀ I', w_lf I' I → R (some (.int (match p_text T n with
    | .inl x => nI x
    | .inr _ => -1))) (am_mk I' L, 0, 0)) : am_meth d 197 [.ref 113] (am_mk I L, 0, 0) R := by
  obtain ⟨d, rfl⟩ : ∃ e, d = e + 1 := ⟨d - 1, by omega⟩
  have hb' := hb
  obtain ⟨ea, eb, ec, hT⟩ := hb'
  refine ar_in rfl rfl rfl (r_M_fault_0 ?_)
  have hbb := fun j hj h => br_b hT 5 j hj h
  have ub := sum_b hT hbb (i := 0) (Nat.zero_le _)
  refine f_sum (T := T) (n := n) (br := p_br T 5) (l := 0) (i := 0) (by omega) hT (by decide) hbb (fun i I hb h hk => f_br (by omega) hT eb 5 0 i I rfl hb h hk) hb (Nat.zero_le _) ?_
  unfold p_text at h
  revert h ub
  cases e1 : p_sum T (p_br T 5) 0 with
  | inl x => exact fun h ub I' a => h I' a
  | inr q =>
    intro h ub I' a b
    obtain ⟨u1, u2, u3⟩ := ub
    have se := sum_end hT eb hbb (Nat.zero_le _) e1
    have hb2 := mb_lf a hb
    simp only [] at h
    by_cases hq : q.1 < n
    · rw [if_pos hq] at h
      have h := h I' a
      refine r_M_fault_6 (l := 0) (by omega) ⟨fun _ => ⟨by omega, fun q => absurd q (by decide), fun _ => ?_⟩, fun w => absurd (by rw [hb2.1]; exact nI_lt hq (by omega)) w⟩
      rw [hb2.2.2.1 q.1 hq]
      refine ⟨fun w => absurd w se, fun _ => ⟨fun _ => ⟨fun _ => ⟨fun _ => h, fun _ => h⟩, fun w => absurd (by decide) w⟩, fun _ => ⟨fun _ => ⟨fun _ => h, fun w => absurd (by decide) w⟩, fun _ => h⟩⟩⟩
    · rw [if_neg hq] at h
      refine r_M_fault_6 (l := 0) (by omega) ⟨fun w => absurd (hb2.1 ▸ w) (nI_nlt (by omega) (by omega)), fun _ => ⟨fun _ => ⟨fun w => absurd w (by decide), fun _ => h I' a⟩, fun w => absurd (by decide) w⟩⟩
end FT
