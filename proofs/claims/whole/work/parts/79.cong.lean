/-! bytes that can't stand are alike; term -/
def w_nob (x : Int32) : Prop := p_dig x = false ∧ p_let x = none ∧ ¬ x = 40 ∧ ¬ x = 41 ∧ ¬ x = 42 ∧ ¬ x = 47 ∧ ¬ x = 43 ∧ ¬ x = 45 ∧ ¬ x = 60 ∧ ¬ x = 61 ∧ ¬ x = 62
def w_cg (T T' : Nat → Int32) : Prop := ∀ i, T i = T' i ∨ (w_nob (T i) ∧ w_nob (T' i))
section CG
variable {T T' : Nat → Int32} {br br' : Nat → p_R}
theorem num_c (h : w_cg T T') : ∀ f i a, p_num T f i a = p_num T' f i a
  | 0, _, _ => rfl
  | f + 1, i, a => by
    rw [p_num, p_num]
    rcases h i with e | ⟨b, b'⟩
    · rw [e, num_c h f]
    · rw [if_neg (by rw [b.1]; decide), if_neg (by rw [b'.1]; decide)]
theorem unit_c (h : w_cg T T') (hbr : ∀ i, br i = br' i) (i : Nat) : p_unit T br i = p_unit T' br' i := by
  unfold p_unit
  rcases h i with e | ⟨b, b'⟩
  · rw [e, num_c h, hbr i]
  · rw [if_neg (c := p_dig (T i) = true) (by rw [b.1]; decide), if_neg (c := p_dig (T' i) = true) (by rw [b'.1]; decide), if_neg b.2.2.1, if_neg b'.2.2.1, b.2.1, b'.2.1]
theorem pl_c (h : w_cg T T') (hbr : ∀ i, br i = br' i) : ∀ f i c, p_pl T br f i c = p_pl T' br' f i c
  | 0, _, _ => rfl
  | f + 1, i, c => by
    rw [p_pl, p_pl]
    rcases h i with e | ⟨b, b'⟩
    · rw [e, unit_c h hbr]
      split
      · cases p_unit T' br' (i + 1) with
        | inl x => rfl
        | inr q => exact pl_c h hbr f q.1 _
      · rfl
    · rw [if_neg (fun z => z.elim b.2.2.2.2.1 b.2.2.2.2.2.1), if_neg (fun z => z.elim b'.2.2.2.2.1 b'.2.2.2.2.2.1)]
theorem prod_c (h : w_cg T T') (hbr : ∀ i, br i = br' i) (i : Nat) : p_prod T br i = p_prod T' br' i := by
  unfold p_prod
  rw [unit_c h hbr]
  cases p_unit T' br' i with
  | inl x => rfl
  | inr q => exact pl_c h hbr 60 q.1 _
theorem sl_c (h : w_cg T T') (hbr : ∀ i, br i = br' i) : ∀ f i c, p_sl T br f i c = p_sl T' br' f i c
  | 0, _, _ => rfl
  | f + 1, i, c => by
    rw [p_sl, p_sl]
    rcases h i with e | ⟨b, b'⟩
    · rw [e, prod_c h hbr]
      split
      · cases p_prod T' br' (i + 1) with
        | inl x => rfl
        | inr q => exact sl_c h hbr f q.1 _
      · rfl
    · rw [if_neg (fun z => z.elim b.2.2.2.2.2.2.1 b.2.2.2.2.2.2.2.1), if_neg (fun z => z.elim b'.2.2.2.2.2.2.1 b'.2.2.2.2.2.2.2.1)]
theorem sum_c (h : w_cg T T') (hbr : ∀ i, br i = br' i) (i : Nat) : p_sum T br i = p_sum T' br' i := by
  unfold p_sum
  rw [prod_c h hbr]
  cases p_prod T' br' i with
  | inl x => rfl
  | inr q => exact sl_c h hbr 60 q.1 _
theorem brk_c (h : w_cg T T') : ∀ m i, p_br T m i = p_br T' m i
  | 0, _ => rfl
  | m + 1, i => by
    rw [p_br, p_br, sum_c h (brk_c h m)]
    cases p_sum T' (p_br T' m) (i + 1) with
    | inl x => rfl
    | inr q =>
      simp only []
      rcases h q.1 with e | ⟨b, b'⟩
      · rw [e, sum_c h (brk_c h m)]
        split
        · cases p_sum T' (p_br T' m) (q.1 + 1) with
          | inl x => rfl
          | inr r =>
            simp only []
            rcases h r.1 with e | ⟨b, b'⟩
            · rw [e]
            · rw [if_neg b.2.2.2.1, if_neg b'.2.2.2.1]
        · rfl
      · obtain ⟨_, _, _, b1, _, _, _, _, b2, b3, b4⟩ := b
        obtain ⟨_, _, _, c1, _, _, _, _, c2, c3, c4⟩ := b'
        rw [if_neg (show ¬ (T q.1 = 60 ∨ T q.1 = 61 ∨ T q.1 = 62) from fun z => z.elim b2 (fun z => z.elim b3 b4)), if_neg (show ¬ (T' q.1 = 60 ∨ T' q.1 = 61 ∨ T' q.1 = 62) from fun z => z.elim c2 (fun z => z.elim c3 c4)), if_neg b1, if_neg c1]
theorem text_c (h : w_cg T T') (n : Nat) : p_text T n = p_text T' n := by
  unfold p_text
  rw [sum_c h (brk_c h 5)]
end CG
theorem byte_c {x : Nat} (hx : x < 256) : nI x = (nI x).toInt8.toInt32 ∨ (w_nob (nI x) ∧ w_nob (nI x).toInt8.toInt32) := by
  have : ∀ x, x < 256 → (nI x = (nI x).toInt8.toInt32 ∨ ((p_dig (nI x) = false ∧ p_let (nI x) = none ∧ ¬ nI x = 40 ∧ ¬ nI x = 41 ∧ ¬ nI x = 42 ∧ ¬ nI x = 47 ∧ ¬ nI x = 43 ∧ ¬ nI x = 45 ∧ ¬ nI x = 60 ∧ ¬ nI x = 61 ∧ ¬ nI x = 62) ∧ (p_dig (nI x).toInt8.toInt32 = false ∧ p_let (nI x).toInt8.toInt32 = none ∧ ¬ (nI x).toInt8.toInt32 = 40 ∧ ¬ (nI x).toInt8.toInt32 = 41 ∧ ¬ (nI x).toInt8.toInt32 = 42 ∧ ¬ (nI x).toInt8.toInt32 = 47 ∧ ¬ (nI x).toInt8.toInt32 = 43 ∧ ¬ (nI x).toInt8.toInt32 = 45 ∧ ¬ (nI x).toInt8.toInt32 = 60 ∧ ¬ (nI x).toInt8.toInt32 = 61 ∧ ¬ (nI x).toInt8.toInt32 = 62))) := by decide +kernel
  exact this x hx
/-! the call -/
def s_cp (f g : Nat → Int32) (t : Nat) : Nat → Nat → Int32
  | 0 => f
  | j + 1 => upd (s_cp f g t j) (60 * t + j) (vp_nar .byte (g j))
theorem cp_at {f g : Nat → Int32} {t : Nat} : ∀ n k, s_cp f g t n k = if 60 * t ≤ k ∧ k < 60 * t + n then vp_nar .byte (g (k - 60 * t)) else f k
  | 0, k => by rw [if_neg (by omega)]; rfl
  | n + 1, k => by
    show upd (s_cp f g t n) (60 * t + n) (vp_nar .byte (g n)) k = _
    by_cases e : k = 60 * t + n
    · subst e
      rw [upd_at, if_pos (by omega), show 60 * t + n - 60 * t = n from by omega]
    · rw [upd_ne e, cp_at n k]
      by_cases q : 60 * t ≤ k ∧ k < 60 * t + n
      · rw [if_pos q, if_pos (by omega)]
      · rw [if_neg q, if_neg (by omega)]
def w_tt (V : am_V) (h9 w : Int32) : am_V := va_up (va_up (va_up (va_up (va_up (va_up V 113 (upd (V 113) 24 0)) 137 (s_cp (V 137) (V 133) (am_n V 113 25) (am_n V 113 24))) 134 (upd (V 134) (am_n V 113 25) h9)) 135 (upd (V 135) (am_n V 113 25) w)) 136 (upd (V 136) (am_n V 113 25) (nI (am_n V 113 24)))) 113 (upd (upd (V 113) 24 0) 25 (V 113 25 + 1))
def o_term (V : am_V) (h9 w : Int32) : Int32 × am_V := if h9 = -1 ∨ (0 ≤ h9 ∧ h9 < V 113 10) then (if w < V 113 0 then o_no V 4 (-4) else if w ≤ 1500 ∧ V 113 25 < 30 then (match p_text (p_of (V 133) 0 (am_n V 113 24)) (am_n V 113 24) with
  | .inl x => (-20 - nI x, va_up V 113 (upd (V 113) 24 0))
  | .inr _ => (V 113 25 + 1, w_tt V h9 w)) else o_no V 6 (-6)) else o_no V 1 (-1)
section TM
variable {d : Nat} {I V : am_V} {L : Nat → Nat → Int64} {R : am_R}
theorem of_tl {f : Nat → Int32} {o n : Nat} : w_tl (p_of f o n) n := fun i hi => by unfold p_of; rw [if_neg (by omega)]
theorem text_n {T : Nat → Int32} {n : Nat} {q : Nat × List Int32} (hT : w_tl T n) (e : p_text T n = .inr q) : q.1 = n ∧ q.2.length ≤ n := by
  unfold p_text at e
  have ub := sum_b hT (fun j hj h => br_b hT 5 j hj h) (i := 0) (Nat.zero_le _)
  cases e1 : p_sum T (p_br T 5) 0 with
  | inl x => rw [e1] at e; cases e
  | inr r =>
    rw [e1] at e ub
    simp only [] at e
    obtain ⟨u1, u2, u3⟩ := ub
    split at e
    · cases e
    · cases e
      exact ⟨by omega, by omega⟩
theorem text_l {T : Nat → Int32} {n x m : Nat} (hT : w_tl T n) (e : p_text T n = .inl x) (hn : n ≤ m) : x ≤ m := by
  unfold p_text at e
  have ub := sum_b hT (fun j hj h => br_b hT 5 j hj h) (i := 0) (Nat.zero_le _)
  cases e1 : p_sum T (p_br T 5) 0 with
  | inl y =>
    rw [e1] at e ub
    cases e
    exact Nat.le_trans ub.2 hn
  | inr r =>
    rw [e1] at e ub
    simp only [] at e
    obtain ⟨u1, u2, u3⟩ := ub
    split at e
    · cases e
      omega
    · cases e
theorem lf_RM {I' : am_V} (h : w_lf I' I) (hm : RM I V) : RM I' V := by
  refine ⟨fun c hc => ?_, fun j hj => ?_⟩
  · have hc2 := hc
    simp only [am_pc, decide_eq_true_eq] at hc2
    rw [h c (by omega)]; exact hm.1 c hc
  · rw [h 113 (by decide)]; exact hm.2 j hj
theorem M_term_tail {h9 w : Int32} {t n : Nat} (hm : RM I V) (ht : V 113 25 = nI t) (ht2 : t < 30) (h60 : n ≤ 60) (h : ∀ I' L', RM I' (va_up (va_up (va_up (va_up (va_up V 137 (s_cp (V 137) (V 133) t n)) 134 (upd (V 134) t h9)) 135 (upd (V 135) t w)) 136 (upd (V 136) t (nI n))) 113 (upd (V 113) 25 (V 113 25 + 1))) → am_lo I' I → R (some (.int (V 113 25 + 1))) (am_mk I' L', 0, 0)) : am_Run am_X0 (am_meth d) 196 R 85 [some (.ref 113), some (.int h9), some (.int w), none, some (.int (nI n)), some (.int 0)] [] (am_mk I L, 0, 0) := by
  refine am_up (P := fun j => ∀ I', RM I' (va_up V 137 (s_cp (V 137) (V 133) t j)) → am_lo I' I → am_Run am_X0 (am_meth d) 196 R 85 [some (.ref 113), some (.int h9), some (.int w), none, some (.int (nI n)), some (.int (nI j))] [] (am_mk I' L, 0, 0)) (n := n) (fun I' f1 f2 => ?_) (fun j hj ih I' f1 f2 => ?_) I ?_ lo_r
  · have e25 : I' 113 25 = nI t := (f1.2 25 rfl).trans ht
    refine r_M_term_85 ⟨fun c => absurd c (nI_nlt (Nat.le_refl _) (by omega)), fun _ => ⟨t, ht2, e25, ?_⟩⟩
    rintro _ rfl
    refine ⟨t, ht2, e25, ?_⟩
    rintro _ rfl
    refine ⟨t, ht2, e25, ?_⟩
    rintro _ rfl _ rfl
    have e9 : I' 113 25 = V 113 25 := f1.2 25 rfl
    have g1 := RM_up (c := 134) (f := upd (I' 134) t h9) (g := upd (V 134) t h9) (by decide) (by rw [f1.1 134 rfl]; rfl) f1
    have g2 := RM_up (c := 135) (f := upd (I' 135) t w) (g := upd (V 135) t w) (by decide) (by rw [f1.1 135 rfl]; rfl) g1
    have g3 := RM_up (c := 136) (f := upd (I' 136) t (nI n)) (g := upd (V 136) t (nI n)) (by decide) (by rw [f1.1 136 rfl]; rfl) g2
    have g4 := RM_f (j := 25) (x := I' 113 25 + 1) (y := V 113 25 + 1) (by rw [e9]) g3
    have h := h _ L g4 (lo_up (by decide) (lo_up (by decide) (lo_up (by decide) (lo_up (by decide) f2))))
    rw [← e9] at h
    exact h
  · refine r_M_term_85 ⟨fun _ => ⟨by omega, 60 * t + j, by omega, ?_, ?_⟩, fun c => absurd (nI_lt hj (by omega)) c⟩
    · rw [(f1.2 25 rfl).trans ht]; exact nI_60 t j
    · rintro _ rfl
      refine ih _ ?_ (lo_up (by decide) f2)
      have e7 : I' 137 = s_cp (V 137) (V 133) t j := f1.1 137 rfl
      have e3 : I' 133 = V 133 := f1.1 133 rfl
      have g := RM_up (I := I') (V := va_up V 137 (s_cp (V 137) (V 133) t j)) (c := 137) (f := upd (I' 137) (60 * t + j) (vp_nar .byte (I' 133 j))) (g := upd (s_cp (V 137) (V 133) t j) (60 * t + j) (vp_nar .byte (V 133 j))) (by decide) (by rw [e7, e3]) f1
      refine ⟨fun c hc => ?_, fun j9 hj9 => ?_⟩
      · rw [g.1 c hc]
        simp only [am_vat]
        split
        · rfl
        · rfl
      · exact g.2 j9 hj9
  · refine ⟨fun c hc => ?_, fun j hj => hm.2 j hj⟩
    rw [am_vat]
    split
    · rename_i e; subst e; exact hm.1 137 rfl
    · exact hm.1 c hc
theorem M_term {h9 w : Int32} (hd : 3 ≤ d) (hm : RM I V) (hv : Inv V) (h : ∀ I' L', RM I' (o_term V h9 w).2 → am_lo I' I → R (some (.int (o_term V h9 w).1)) (am_mk I' L', 0, 0)) : am_meth d 196 [.ref 113, .int h9, .int w] (am_mk I L, 0, 0) R := by
  obtain ⟨d, rfl⟩ : ∃ e, d = e + 1 := ⟨d - 1, by omega⟩
  refine ar_in rfl rfl rfl (r_M_term_0 (by omega) ?_)
  have mc := hm.1; have mf := hm.2
  rw [mf 10 rfl, mf 25 rfl, mf 0 rfl]
  have hn := hv.1.2.2.2.2.1
  have hn2 := hn.2
  have ht := hv.1.2.2.2.2.2.1
  have ht2 := ht.2
  have hb : w_mb I (p_of (V 133) 0 (am_n V 113 24)) (am_n V 113 24) := ⟨by rw [mf 24 rfl]; exact hn.1, by omega, fun j hj => by rw [mc 133 rfl]; unfold p_of; rw [if_pos hj, Nat.zero_add], of_tl⟩
  have e30 : V 113 25 = 30 ↔ ¬ V 113 25 < 30 := by
    rw [ht.1, show (30 : Int32) = nI 30 from rfl, nI_eq (by omega) (by decide), nI_ltI (by omega) (by decide)]; omega
  unfold o_term at h
  refine ⟨fun c => ?_, fun c => ⟨fun c2 => ?_, fun c2 => ?_⟩⟩
  · rw [if_pos (Or.inl c)] at h
    refine ⟨fun d1 => ?_, fun d1 => ⟨fun d2 => ⟨fun d3 => ?_, fun d3 => ?_⟩, fun d2 => ?_⟩⟩
    · (rw [if_pos d1] at h; exact h _ _ (RM_no hm) (lo_up (by decide) lo_r))
    · rw [if_neg d1, if_neg (fun z => (e30.mp d3) z.2)] at h; (exact h _ _ (RM_no hm) (lo_up (by decide) lo_r))
    · have d4 : V 113 25 < 30 := Classical.not_not.mp (fun z => d3 (e30.mpr z))
      rw [if_neg d1, if_pos ⟨d2, d4⟩] at h
      have t30 := d4
      rw [ht.1, show (30 : Int32) = nI 30 from rfl, nI_ltI (by omega) (by decide)] at t30
      refine ok_M_fault (by omega) hb (fun I' lf => ⟨_, _, _, rfl, rfl, ?_⟩)
      have rm := lf_RM lf hm
      have lo : am_lo I' I := fun c hc => lf c (by omega)
      rintro _ rfl
      revert h
      cases ep : p_text (p_of (V 133) 0 (am_n V 113 24)) (am_n V 113 24) with
      | inl x =>
        intro h
        have xb : x ≤ 60 := text_l of_tl ep (by omega)
        refine ⟨fun z => absurd z (nI_pos (by omega)), fun _ => h _ _ (RM_f rfl rm) (lo_up (by decide) lo)⟩
      | inr q =>
        intro h
        refine ⟨fun _ => ?_, fun z => absurd (show (-1 : Int32) < 0 by decide) z⟩
        rw [rm.2 24 rfl, hn.1]
        refine M_term_tail (V := va_up V 113 (upd (V 113) 24 0)) (t := am_n V 113 25) (n := am_n V 113 24) (RM_f rfl rm) ht.1 t30 (by omega) (fun I2 L2 r2 l2 => h I2 L2 ?_ (fun c hc => (l2 c hc).trans ((lo_up (by decide) lo) c hc)))
        refine ⟨fun c hc => ?_, fun j hj => ?_⟩
        · rw [r2.1 c hc]
          have h113 : c ≠ 113 := by simp only [am_pc, decide_eq_true_eq] at hc; omega
          unfold w_tt
          simp only [am_vat, if_neg h113]
          rfl
        · rw [r2.2 j hj]; rfl
    · rw [if_neg d1, if_neg (fun z => d2 z.1)] at h; (exact h _ _ (RM_no hm) (lo_up (by decide) lo_r))
  · rw [if_pos (Or.inr c2)] at h
    refine ⟨fun d1 => ?_, fun d1 => ⟨fun d2 => ⟨fun d3 => ?_, fun d3 => ?_⟩, fun d2 => ?_⟩⟩
    · (rw [if_pos d1] at h; exact h _ _ (RM_no hm) (lo_up (by decide) lo_r))
    · rw [if_neg d1, if_neg (fun z => (e30.mp d3) z.2)] at h; (exact h _ _ (RM_no hm) (lo_up (by decide) lo_r))
    · have d4 : V 113 25 < 30 := Classical.not_not.mp (fun z => d3 (e30.mpr z))
      rw [if_neg d1, if_pos ⟨d2, d4⟩] at h
      have t30 := d4
      rw [ht.1, show (30 : Int32) = nI 30 from rfl, nI_ltI (by omega) (by decide)] at t30
      refine ok_M_fault (by omega) hb (fun I' lf => ⟨_, _, _, rfl, rfl, ?_⟩)
      have rm := lf_RM lf hm
      have lo : am_lo I' I := fun c hc => lf c (by omega)
      rintro _ rfl
      revert h
      cases ep : p_text (p_of (V 133) 0 (am_n V 113 24)) (am_n V 113 24) with
      | inl x =>
        intro h
        have xb : x ≤ 60 := text_l of_tl ep (by omega)
        refine ⟨fun z => absurd z (nI_pos (by omega)), fun _ => h _ _ (RM_f rfl rm) (lo_up (by decide) lo)⟩
      | inr q =>
        intro h
        refine ⟨fun _ => ?_, fun z => absurd (show (-1 : Int32) < 0 by decide) z⟩
        rw [rm.2 24 rfl, hn.1]
        refine M_term_tail (V := va_up V 113 (upd (V 113) 24 0)) (t := am_n V 113 25) (n := am_n V 113 24) (RM_f rfl rm) ht.1 t30 (by omega) (fun I2 L2 r2 l2 => h I2 L2 ?_ (fun c hc => (l2 c hc).trans ((lo_up (by decide) lo) c hc)))
        refine ⟨fun c hc => ?_, fun j hj => ?_⟩
        · rw [r2.1 c hc]
          have h113 : c ≠ 113 := by simp only [am_pc, decide_eq_true_eq] at hc; omega
          unfold w_tt
          simp only [am_vat, if_neg h113]
          rfl
        · rw [r2.2 j hj]; rfl
    · rw [if_neg d1, if_neg (fun z => d2 z.1)] at h; (exact h _ _ (RM_no hm) (lo_up (by decide) lo_r))
  · rw [if_neg (fun z => z.elim c c2)] at h; (exact h _ _ (RM_no hm) (lo_up (by decide) lo_r))
theorem nar_b (x : Int32) : vp_nar .byte x.toInt8.toInt32 = x.toInt8.toInt32 := pk_vb x
theorem RC_t0 (hc : RC I V) : RC (va_up I 91 (upd (I 91) 0 0)) (va_up V 113 (upd (V 113) 24 0)) := by
  obtain ⟨⟨n1, n2, n3, n4, n5, n6, n7, n8⟩, g2, g3, g4, g5, g6⟩ := hc
  exact ⟨⟨n1, n2, n3, n4, n5, rfl, n7, n8⟩, g2, g3, g4, g5, g6⟩
theorem RC_tf {I' : am_V} (h : w_tf I' I) (hc : RC I V) : RC I' V := by
  have h2 : ∀ c, c ≠ 93 → c ≠ 94 → I' c = I c := h
  unfold RC Cn Ce Ca Cr Cc Cp am_r10 am_r20 am_q20 at hc ⊢
  simp (disch := decide) only [h2] at ⊢
  exact hc
theorem tf_hi {I' : am_V} (h : w_tf I' I) : am_hi I' I := fun c hc => h c (by omega) (by omega)
theorem tb_of (hc : RC I V) (hv : Inv V) : w_tb I (p_of (I 92) 0 (am_n V 113 24)) (am_n V 113 24) ∧ p_text (p_of (I 92) 0 (am_n V 113 24)) (am_n V 113 24) = p_text (p_of (V 133) 0 (am_n V 113 24)) (am_n V 113 24) := by
  have hn := hv.1.2.2.2.2.1
  have hn2 := hn.2
  have cp := hc.2.2.2.2.2.1
  refine ⟨⟨by rw [hc.1.2.2.2.2.2.1]; exact hn.1, by omega, fun j hj => by unfold p_of; rw [if_pos hj, Nat.zero_add], of_tl, fun j hj => ?_⟩, text_c (fun i => ?_) _⟩
  · obtain ⟨x, hx, e, _⟩ := cp j (by omega)
    exact ⟨x, hx, by unfold p_of; rw [if_pos hj, Nat.zero_add]; exact e⟩
  · by_cases q : i < am_n V 113 24
    · unfold p_of
      rw [if_pos q, if_pos q, Nat.zero_add]
      obtain ⟨x, hx, e, e2⟩ := cp i (by omega)
      rw [e, e2]
      exact byte_c hx
    · left
      rw [of_tl i (by omega), of_tl i (by omega)]
/-- the class's cells with a new term -/
theorem RC_tt {h9 w : Int32} {code : List Int32} {n9 : Nat} (hc : RC I V) (hv : Inv V) (ht : am_n V 113 25 < 30) (e : p_text (p_of (V 133) 0 (am_n V 113 24)) (am_n V 113 24) = .inr (n9, code)) {I' : am_V} (hI : ∀ c, c ≠ 85 → c ≠ 86 → c ≠ 87 → c ≠ 88 → c ≠ 89 → c ≠ 91 → I' c = I c) (h85 : I' 85 0 = V 113 25 + 1) (h86 : I' 86 = upd (I 86) (am_n V 113 25) h9) (h87 : I' 87 = upd (I 87) (am_n V 113 25) w) (h88 : I' 88 = upd (I 88) (am_n V 113 25) (nI code.length)) (h89 : ∀ k, (60 * am_n V 113 25 ≤ k ∧ k < 60 * am_n V 113 25 + code.length → code[k - 60 * am_n V 113 25]? = some (I' 89 k)) ∧ (¬ (60 * am_n V 113 25 ≤ k ∧ k < 60 * am_n V 113 25 + code.length) → I' 89 k = I 89 k)) (h91 : I' 91 0 = 0) : RC I' (w_tt V h9 w) := by
  have hn := hv.1.2.2.2.2.1
  have hn2 := hn.2
  have hq := hv.1.2.2.2.2.2.1
  have hq2 := hq.2
  have tn := text_n of_tl e
  have tn1 : n9 = am_n V 113 24 := tn.1
  have tn2 : code.length ≤ am_n V 113 24 := tn.2
  obtain ⟨⟨n1, n2, n3, n4, n5, n6, n7, n8⟩, ⟨e1, e2, e3, e4, e5, e6, e7, e8, e9, e10, e11, e12, e13, e14, e15, e16, e17⟩, g3, g4, g5, ⟨g6, g7⟩⟩ := hc
  have h2 : ∀ c, c ≠ 85 → c ≠ 86 → c ≠ 87 → c ≠ 88 → c ≠ 89 → c ≠ 91 → I' c = I c := hI
  have q25 : (w_tt V h9 w) 113 25 = V 113 25 + 1 := rfl
  have q25n : am_n (w_tt V h9 w) 113 25 = am_n V 113 25 + 1 := am_n_e (by rw [q25, hq.1, nI_1]) (by omega)
  have q137 : (w_tt V h9 w) 137 = s_cp (V 137) (V 133) (am_n V 113 25) (am_n V 113 24) := rfl
  have q136 : ∀ x, (w_tt V h9 w) 136 x = if x = am_n V 113 25 then nI (am_n V 113 24) else V 136 x := fun x => rfl
  refine ⟨?_, ?_, ?_, ?_, ?_, fun j hj => ?_, fun x hx => ?_⟩
  · exact ⟨by rw [h2 16 (by decide) (by decide) (by decide) (by decide) (by decide) (by decide)]; exact n1, by rw [h2 42 (by decide) (by decide) (by decide) (by decide) (by decide) (by decide)]; exact n2, by rw [h2 66 (by decide) (by decide) (by decide) (by decide) (by decide) (by decide)]; exact n3, by rw [h2 66 (by decide) (by decide) (by decide) (by decide) (by decide) (by decide)]; exact n4, h85, h91, by rw [h2 95 (by decide) (by decide) (by decide) (by decide) (by decide) (by decide)]; exact n7, by rw [h2 97 (by decide) (by decide) (by decide) (by decide) (by decide) (by decide)]; exact n8⟩
  · unfold Ce
    rw [h86, h87]
    simp (disch := decide) only [h2]
    exact ⟨e1, e2, e3, e4, e5, e6, e7, e8, e9, e10, e11, e12, e13, by rw [e14]; rfl, by rw [e15]; rfl, e16, e17⟩
  · unfold Ca am_r10 am_r20 am_q20 at g3 ⊢
    simp (disch := decide) only [h2]
    exact g3
  · unfold Cr at g4 ⊢
    simp (disch := decide) only [h2]
    exact g4
  · unfold Cc at g5 ⊢
    simp (disch := decide) only [h2]
    exact g5
  · simp (disch := decide) only [h2]
    exact g6 j hj
  · rw [q25n] at hx
    by_cases ex : x = am_n V 113 25
    · subst ex
      have en : am_n (w_tt V h9 w) 136 (am_n V 113 25) = am_n V 113 24 := am_n_e (by rw [q136, if_pos rfl]) (by omega)
      rw [en]
      have eT : p_of ((w_tt V h9 w) 137) (60 * am_n V 113 25) (am_n V 113 24) = p_of (V 133) 0 (am_n V 113 24) := by
        funext i
        unfold p_of
        by_cases qi : i < am_n V 113 24
        · rw [if_pos qi, if_pos qi, q137, cp_at, if_pos (by omega), Nat.zero_add, show 60 * am_n V 113 25 + i - 60 * am_n V 113 25 = i from by omega]
          obtain ⟨y, hy, _, ey⟩ := g6 i (by omega)
          rw [ey, nar_b]
        · rw [if_neg qi, if_neg qi]
      refine ⟨code, by rw [eT, e, tn1], by rw [h88, upd_at], by omega, fun j c hj => ?_⟩
      have hjl : j < code.length := by
        rcases Nat.lt_or_ge j code.length with w | w
        · exact w
        · rw [List.getElem?_eq_none w] at hj; cases hj
      have := (h89 (60 * am_n V 113 25 + j)).1 (by omega)
      rw [show 60 * am_n V 113 25 + j - 60 * am_n V 113 25 = j from by omega, hj] at this
      exact (Option.some.inj this).symm
    · have hx2 : x < am_n V 113 25 := by omega
      obtain ⟨cd, p1, p2, p3, p4⟩ := g7 x hx2
      have en : am_n (w_tt V h9 w) 136 x = am_n V 136 x := by unfold am_n; rw [q136, if_neg ex]
      have hl := (hv.2.2.2.2.2.2.1.2.2 x hx2).2.2.2
      have eT : p_of ((w_tt V h9 w) 137) (60 * x) (am_n V 136 x) = p_of (V 137) (60 * x) (am_n V 136 x) := by
        funext i
        unfold p_of
        by_cases qi : i < am_n V 136 x
        · rw [if_pos qi, if_pos qi, q137, cp_at, if_neg (by omega)]
        · rw [if_neg qi, if_neg qi]
      rw [en, eT]
      refine ⟨cd, p1, by rw [h88, upd_ne ex]; exact p2, p3, fun j c hj => ?_⟩
      have hjl : j < cd.length := by
        rcases Nat.lt_or_ge j cd.length with w | w
        · exact w
        · rw [List.getElem?_eq_none w] at hj; cases hj
      rw [(h89 (60 * x + j)).2 (by omega)]
      exact p4 j c hj
theorem ok_acopy {dp m : Nat} (hd : 1 ≤ d) (hm : m ≤ 60) (hdp : dp + m ≤ 1800) {x y : Int32} (hx : x = nI dp) (hy : y = nI m) (h : R none (am_mk (va_up I 89 (va_cpy (I 94) (I 89) 0 dp m)) L, 0, 0)) : am_meth d 259 [.ref 94, .int 0, .ref 89, .int x, .int y] (am_mk I L, 0, 0) R := by
  obtain ⟨d, rfl⟩ : ∃ e, d = e + 1 := ⟨d - 1, by omega⟩
  subst hx; subst hy
  show am_pr (am_acopy 94 0 89 (nI dp) (nI m) (am_mk I L, 0, 0)) R
  have ea : am_acopy 94 0 89 (nI dp) (nI m) (am_mk I L, 0, 0) = if (decide ((94 : Nat) ≠ 89) && !(decide ((0 : Int32) < 0)) && !(decide (nI dp < 0)) && !(decide (nI m < 0)) && decide ((0 : Int32).toNatClampNeg + (nI m).toNatClampNeg ≤ 60) && decide ((nI dp).toNatClampNeg + (nI m).toNatClampNeg ≤ 1800)) = true then some (none, (am_mk I L).set 89 (.inl (0, 1800, va_cpy (I 94) (I 89) (0 : Int32).toNatClampNeg (nI dp).toNatClampNeg (nI m).toNatClampNeg)), 0, 0) else none := rfl
  rw [ea, nI_clamp (by omega), nI_clamp (by omega), show (0 : Int32).toNatClampNeg = 0 from rfl, Nat.zero_add]
  rw [if_pos (by
    simp only [Bool.and_eq_true, Bool.not_eq_true', decide_eq_true_eq, decide_eq_false_iff_not]
    exact ⟨⟨⟨⟨⟨by decide, by decide⟩, nI_pos (by omega)⟩, nI_pos (by omega)⟩, hm⟩, hdp⟩)]
  have em : (am_mk I L).set 89 (.inl (0, 1800, va_cpy (I 94) (I 89) 0 dp m)) = am_mk (va_up I 89 (va_cpy (I 94) (I 89) 0 dp m)) L := mk_s89
  show R none ((am_mk I L).set 89 (.inl (0, 1800, va_cpy (I 94) (I 89) 0 dp m)), 0, 0)
  rw [em]; exact h
theorem ok_Te_add {h9 w : Int32} {t m : Nat} (hd : 2 ≤ d) (ht : I 85 0 = nI t) (ht2 : t < 30) (hm : I 93 0 = nI m) (hm2 : m ≤ 60) (h : ∀ I', (∀ c, c ≠ 85 → c ≠ 86 → c ≠ 87 → c ≠ 88 → c ≠ 89 → I' c = I c) → I' 85 0 = I 85 0 + 1 → I' 86 = upd (I 86) t h9 → I' 87 = upd (I 87) t w → I' 88 = upd (I 88) t (nI m) → I' 89 = va_cpy (I 94) (I 89) 0 (60 * t) m → R (some (.int (I 85 0 + 1))) (am_mk I' L, 0, 0)) : am_meth d 132 [.ref 85, .int h9, .int w, .ref 93] (am_mk I L, 0, 0) R := by
  obtain ⟨d, rfl⟩ : ∃ e, d = e + 1 := ⟨d - 1, by omega⟩
  refine ar_in rfl rfl rfl (r_Terms_add_0 ⟨t, ht2, ht, ?_⟩)
  rintro _ rfl
  refine ⟨t, ht2, ht, ?_⟩
  rintro _ rfl
  refine ⟨t, ht2, ht, ?_⟩
  rintro _ rfl
  refine ok_acopy (dp := 60 * t) (m := m) (by omega) hm2 (by omega) (show I 85 0 * 60 = _ from by rw [ht, show (60 : Int32) = nI 60 from rfl, show nI t * nI 60 = nI (t * 60) from (Int32.ofNat_mul t 60).symm, Nat.mul_comm]) hm ⟨_, _, rfl, rfl, ?_⟩
  rintro _ rfl
  refine h _ (fun c a1 a2 a3 a4 a5 => by simp only [am_vat, if_neg a1, if_neg a2, if_neg a3, if_neg a4, if_neg a5]) rfl rfl rfl ?_ rfl
  show upd (I 88) t (I 93 0) = _
  rw [hm]
theorem C_term {h9 w : Int32} (hd : 33 ≤ d) (hc : RC I V) (hv : Inv V) (h : ∀ I' L', RC I' (o_term V h9 w).2 → am_hi I' I → R (some (.int (o_term V h9 w).1)) (am_mk I' L', 0, 0)) : am_meth d 16 [.ref 0, .int h9, .int w] (am_mk I L, 0, 0) R := by
  obtain ⟨d, rfl⟩ : ∃ e, d = e + 1 := ⟨d - 1, by omega⟩
  refine ar_in rfl rfl rfl (r_H_term_0 (by omega) ?_)
  obtain ⟨⟨n1, n2, n3, n4, n5, n6, n7, n8⟩, ⟨e1, e2, e3, e4, e5, e6, e7, e8, e9, e10, e11, e12, e13, e14, e15, e16, e17⟩, -⟩ := id hc
  rw [n2, n3, n5]
  have hn := hv.1.2.2.2.2.1
  have hn2 := hn.2
  have ht := hv.1.2.2.2.2.2.1
  have ht2 := ht.2
  have tb := tb_of hc hv
  unfold o_term at h
  rw [← tb.2] at h
  refine ⟨fun c => ?_, fun c => ⟨fun c2 => ?_, fun c2 => ?_⟩⟩
  · rw [if_pos (Or.inl c)] at h
    refine ⟨fun d1 => ?_, fun d1 => ?_, fun d1 => ⟨fun d2 => ?_, fun d2 => ?_⟩⟩
    · (rw [if_pos d1] at h; exact h _ _ (RC_no hc) (hi_up (by decide) hi_r))
    · rw [if_neg d1.1, if_neg (fun z => Int32.not_le.mpr d1.2 z.1)] at h; (exact h _ _ (RC_no hc) (hi_up (by decide) hi_r))
    · rw [if_neg d1.1, if_pos ⟨Int32.not_lt.mp d1.2, d2⟩] at h
      have t30 := d2
      rw [ht.1, show (30 : Int32) = nI 30 from rfl, nI_ltI (by omega) (by decide)] at t30
      refine ok_Tx_read (by omega) tb.1 (fun x I' ep tf => ⟨_, _, _, rfl, rfl, fun z => ?_, fun _ => ?_⟩) (fun q I' ep tf ts => ⟨_, _, _, rfl, rfl, fun _ => ?_, fun z => absurd rfl z⟩)
      · have xb : x ≤ 60 := text_l of_tl ep (by omega)
        have := nI_pos (n := x) (by omega)
        rw [z] at this; exact absurd (show (-1 : Int32) < 0 by decide) this
      · rw [ep] at h
        exact h _ _ (RC_t0 (RC_tf tf hc)) (hi_up (by decide) (tf_hi tf))
      · have tq := text_n of_tl ep
        have ep2 := ep
        rw [tb.2] at ep2
        rw [ep] at h
        have e85 : I' 85 0 = V 113 25 := by rw [tf 85 (by decide) (by decide)]; exact n5
        refine ok_Te_add (t := am_n V 113 25) (m := q.2.length) (by omega) (e85.trans ht.1) t30 ts.2.2.1 (by omega) (fun I2 a1 a2 a3 a4 a5 a6 => ⟨_, _, _, rfl, rfl, ?_⟩)
        have hc' := RC_tf tf hc
        have rc : RC I2 (w_tt V h9 w) := by
          refine RC_tt (I := I') (n9 := q.1) (code := q.2) hc' hv t30 ep2 (fun c b1 b2 b3 b4 b5 b6 => ?_) ?_ a3 a4 a5 (fun k => ⟨fun z => ?_, fun z => ?_⟩) ?_
          · rw [a1 c b1 b2 b3 b4 b5, am_vat, if_neg b6]
          · rw [a2]; show I' 85 0 + 1 = _; rw [e85]
          · rw [a6]
            show _ = some (if 60 * am_n V 113 25 ≤ k ∧ k < 60 * am_n V 113 25 + q.2.length then I' 94 (0 + (k - 60 * am_n V 113 25)) else I' 89 k)
            rw [if_pos z, Nat.zero_add]
            have hk : k - 60 * am_n V 113 25 < q.2.length := by omega
            rw [List.getElem?_eq_getElem hk]
            exact congrArg some (ts.2.2.2 _ _ (List.getElem?_eq_getElem hk)).symm
          · rw [a6]
            show (if 60 * am_n V 113 25 ≤ k ∧ k < 60 * am_n V 113 25 + q.2.length then I' 94 (0 + (k - 60 * am_n V 113 25)) else I' 89 k) = _
            rw [if_neg z]
          · rw [a1 91 (by decide) (by decide) (by decide) (by decide) (by decide)]; rfl
        have hi : am_hi I2 I := fun c hc9 => (a1 c (by omega) (by omega) (by omega) (by omega) (by omega)).trans ((hi_up (by decide) (tf_hi tf)) c hc9)
        have h := h I2 L rc hi
        show R (some (.int (I' 85 0 + 1))) _
        rw [e85]; exact h
    · rw [if_neg d1.1, if_neg (fun z => d2 z.2)] at h; (exact h _ _ (RC_no hc) (hi_up (by decide) hi_r))
  · rw [if_pos (Or.inr c2)] at h
    refine ⟨fun d1 => ?_, fun d1 => ?_, fun d1 => ⟨fun d2 => ?_, fun d2 => ?_⟩⟩
    · (rw [if_pos d1] at h; exact h _ _ (RC_no hc) (hi_up (by decide) hi_r))
    · rw [if_neg d1.1, if_neg (fun z => Int32.not_le.mpr d1.2 z.1)] at h; (exact h _ _ (RC_no hc) (hi_up (by decide) hi_r))
    · rw [if_neg d1.1, if_pos ⟨Int32.not_lt.mp d1.2, d2⟩] at h
      have t30 := d2
      rw [ht.1, show (30 : Int32) = nI 30 from rfl, nI_ltI (by omega) (by decide)] at t30
      refine ok_Tx_read (by omega) tb.1 (fun x I' ep tf => ⟨_, _, _, rfl, rfl, fun z => ?_, fun _ => ?_⟩) (fun q I' ep tf ts => ⟨_, _, _, rfl, rfl, fun _ => ?_, fun z => absurd rfl z⟩)
      · have xb : x ≤ 60 := text_l of_tl ep (by omega)
        have := nI_pos (n := x) (by omega)
        rw [z] at this; exact absurd (show (-1 : Int32) < 0 by decide) this
      · rw [ep] at h
        exact h _ _ (RC_t0 (RC_tf tf hc)) (hi_up (by decide) (tf_hi tf))
      · have tq := text_n of_tl ep
        have ep2 := ep
        rw [tb.2] at ep2
        rw [ep] at h
        have e85 : I' 85 0 = V 113 25 := by rw [tf 85 (by decide) (by decide)]; exact n5
        refine ok_Te_add (t := am_n V 113 25) (m := q.2.length) (by omega) (e85.trans ht.1) t30 ts.2.2.1 (by omega) (fun I2 a1 a2 a3 a4 a5 a6 => ⟨_, _, _, rfl, rfl, ?_⟩)
        have hc' := RC_tf tf hc
        have rc : RC I2 (w_tt V h9 w) := by
          refine RC_tt (I := I') (n9 := q.1) (code := q.2) hc' hv t30 ep2 (fun c b1 b2 b3 b4 b5 b6 => ?_) ?_ a3 a4 a5 (fun k => ⟨fun z => ?_, fun z => ?_⟩) ?_
          · rw [a1 c b1 b2 b3 b4 b5, am_vat, if_neg b6]
          · rw [a2]; show I' 85 0 + 1 = _; rw [e85]
          · rw [a6]
            show _ = some (if 60 * am_n V 113 25 ≤ k ∧ k < 60 * am_n V 113 25 + q.2.length then I' 94 (0 + (k - 60 * am_n V 113 25)) else I' 89 k)
            rw [if_pos z, Nat.zero_add]
            have hk : k - 60 * am_n V 113 25 < q.2.length := by omega
            rw [List.getElem?_eq_getElem hk]
            exact congrArg some (ts.2.2.2 _ _ (List.getElem?_eq_getElem hk)).symm
          · rw [a6]
            show (if 60 * am_n V 113 25 ≤ k ∧ k < 60 * am_n V 113 25 + q.2.length then I' 94 (0 + (k - 60 * am_n V 113 25)) else I' 89 k) = _
            rw [if_neg z]
          · rw [a1 91 (by decide) (by decide) (by decide) (by decide) (by decide)]; rfl
        have hi : am_hi I2 I := fun c hc9 => (a1 c (by omega) (by omega) (by omega) (by omega) (by omega)).trans ((hi_up (by decide) (tf_hi tf)) c hc9)
        have h := h I2 L rc hi
        show R (some (.int (I' 85 0 + 1))) _
        rw [e85]; exact h
    · rw [if_neg d1.1, if_neg (fun z => d2 z.2)] at h; (exact h _ _ (RC_no hc) (hi_up (by decide) hi_r))
  · rw [if_neg (fun z => z.elim c c2)] at h; (exact h _ _ (RC_no hc) (hi_up (by decide) hi_r))
theorem I_term {h9 w : Int32} (hv : Inv V) : Inv (o_term V h9 w).2 := by
  have hn := hv.1.2.2.2.2.1
  have hn2 := hn.2
  have ht := hv.1.2.2.2.2.2.1
  have ht2 := ht.2
  have z24 : am_ix (va_up V 113 (upd (V 113) 24 0)) 113 24 61 := am_ixn (x := 0) rfl (by decide) (by decide)
  unfold o_term
  split
  · rename_i c
    split
    · exact hv
    · rename_i c1
      split
      · rename_i c2
        split
        · obtain ⟨⟨a1, a2, a3, a4, a5, a6, a7, a8⟩, vt, vk, vs, vx, vr, vp, vd⟩ := hv
          exact ⟨⟨a1, a2, a3, a4, z24, a6, a7, a8⟩, vt, vk, vs, vx, vr, vp, vd⟩
        · have c22 := c2.2
          rw [ht.1, show (30 : Int32) = nI 30 from rfl, nI_ltI (by omega) (by decide)] at c22
          obtain ⟨⟨a1, a2, a3, a4, a5, a6, a7, a8⟩, vt, vk, vs, vx, vr, ⟨vp1, vp2, vp3⟩, vd⟩ := hv
          have q25 : (w_tt V h9 w) 113 25 = V 113 25 + 1 := rfl
          have e25 : (w_tt V h9 w) 113 25 = nI (am_n V 113 25 + 1) := by rw [q25, ht.1, nI_1]
          have q25n : am_n (w_tt V h9 w) 113 25 = am_n V 113 25 + 1 := am_n_e e25 (by omega)
          refine ⟨⟨a1, a2, a3, a4, am_ixn (x := 0) rfl (by decide) (by decide), am_ixn e25 (by omega) (by decide), a7, a8⟩, vt, vk, vs, vx, vr, ⟨vp1, vp2, fun x hx => ?_⟩, vd⟩
          have hx : x < am_n (w_tt V h9 w) 113 25 := hx
          rw [q25n] at hx
          have q4 : ∀ y, (w_tt V h9 w) 134 y = if y = am_n V 113 25 then h9 else V 134 y := fun y => rfl
          have q5 : ∀ y, (w_tt V h9 w) 135 y = if y = am_n V 113 25 then w else V 135 y := fun y => rfl
          have q6 : ∀ y, (w_tt V h9 w) 136 y = if y = am_n V 113 25 then nI (am_n V 113 24) else V 136 y := fun y => rfl
          by_cases ex : x = am_n V 113 25
          · refine ⟨?_, ?_, ?_⟩
            · rcases c with c | c
              · left
                show (w_tt V h9 w) 134 x = -1
                rw [q4, if_pos ex]; exact c
              · right
                have hh := a3.2
                rw [a3.1] at c
                obtain ⟨y, hy, rfl⟩ := am_nat c (by omega)
                exact am_ixn (x := y) (by show (w_tt V (nI y) w) 134 x = _; rw [show (w_tt V (nI y) w) 134 x = if x = am_n V 113 25 then nI y else V 134 x from rfl, if_pos ex]) (by omega) (by decide)
            · have w0 : ¬ w < 0 := fun q => c1 (by
                rw [a1.1]
                have := nI_pos' (n := am_n V 113 0) (by have := a1.2; omega)
                clear c c2
                (simp (disch := omega) only [Int32.lt_iff_toInt_lt, Int32.le_iff_toInt_le, ← Int32.toInt_inj, Int32.reduceToInt, nI_toInt] at *; omega))
              obtain ⟨y, hy, rfl⟩ := nI_of (x := w) w0
              have c21 := c2.1
              rw [show (1500 : Int32) = nI 1500 from rfl, nI_leI hy (by decide)] at c21
              exact am_ixn (x := y) (by show (w_tt V h9 (nI y)) 135 x = _; rw [show (w_tt V h9 (nI y)) 135 x = if x = am_n V 113 25 then nI y else V 135 x from rfl, if_pos ex]) (by omega) (by decide)
            · exact am_ixn (x := am_n V 113 24) (by show (w_tt V h9 w) 136 x = _; rw [q6, if_pos ex]) (by omega) (by decide)
          · obtain ⟨b1, b2, b3⟩ := vp3 x (by omega)
            have i4 : (w_tt V h9 w) 134 x = V 134 x := by rw [q4, if_neg ex]
            have i5 : (w_tt V h9 w) 135 x = V 135 x := by rw [q5, if_neg ex]
            have i6 : (w_tt V h9 w) 136 x = V 136 x := by rw [q6, if_neg ex]
            refine ⟨?_, ?_, ?_⟩
            · show (w_tt V h9 w) 134 x = -1 ∨ am_ix (w_tt V h9 w) 134 x 20
              unfold am_ix am_n; rw [i4]; exact b1
            · show am_ix (w_tt V h9 w) 135 x 1501
              unfold am_ix am_n; rw [i5]; exact b2
            · show am_ix (w_tt V h9 w) 136 x 61
              unfold am_ix am_n; rw [i6]; exact b3
      · exact hv
  · exact hv
end TM
