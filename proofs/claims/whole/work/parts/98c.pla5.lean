/-! places: the reference fills -/
def s_TF (V : am_V) (u l K m : Nat) : Nat := t_L (s_hN V) (t_An (s_M V) u l) (s_rl V) 100000 K m
def s_pc (m : Nat) : Nat := s_cnt (fun p => m.testBit p) 6
/-- the two rows of the reference hold these costs -/
def w_fa (I : am_V) (cur : Nat → Nat) : Prop := ∀ x, x < 64 → (cur x < 100000 → I 151 x = nI (s_pc x) ∧ I 152 x = nI (cur x)) ∧ (¬ cur x < 100000 → I 151 x = -1)
def w_ff (I' I : am_V) : Prop := ∀ c, c ≠ 151 → c ≠ 152 → I' c = I c
theorem t_m_eq {P : Nat → Bool} {f : Nat → Nat} {v r w : Nat} (h1 : w ≤ v) (h2 : ∀ p, p < r → P p = true → w ≤ f p) (h3 : w = v ∨ ∃ p, p < r ∧ P p = true ∧ w = f p) : t_m P f v r = w := by
  have a1 := t_m_v (P := P) (f := f) (v := v) r
  rcases t_m_or (P := P) (f := f) (v := v) r with e | ⟨p, p1, p2, e⟩
  · rcases h3 with q | ⟨p, p1, p2, q⟩
    · omega
    · have := t_m_f (P := P) (f := f) (v := v) r p1 p2
      omega
  · have := h2 p p1 p2
    rcases h3 with q | ⟨p', p1', p2', q⟩
    · omega
    · have := t_m_f (P := P) (f := f) (v := v) r p1' p2'
      omega
theorem pc_or {m p : Nat} (hm : m < 64) (hp : p < 6) (h : m.testBit p = false) : s_pc (m ||| 2 ^ p) = s_pc m + 1 ∧ m ||| 2 ^ p < 64 := by
  have : ∀ m, m < 64 → ∀ p, p < 6 → m.testBit p = false → s_pc (m ||| 2 ^ p) = s_pc m + 1 ∧ m ||| 2 ^ p < 64 := by decide +kernel
  exact this m hm p hp h
theorem xr_or {x p : Nat} (hx : x < 64) (hp : p < 6) (h : x.testBit p = true) : (x ^^^ 2 ^ p).testBit p = false ∧ (x ^^^ 2 ^ p) ||| 2 ^ p = x := by
  have : ∀ x, x < 64 → ∀ p, p < 6 → x.testBit p = true → (x ^^^ 2 ^ p).testBit p = false ∧ (x ^^^ 2 ^ p) ||| 2 ^ p = x := by decide +kernel
  exact this x hx p hp h
theorem or_xr {m p : Nat} (hm : m < 64) (hp : p < 6) (h : m.testBit p = false) : (m ||| 2 ^ p) ^^^ 2 ^ p = m ∧ (m ||| 2 ^ p).testBit p = true := by
  have : ∀ m, m < 64 → ∀ p, p < 6 → m.testBit p = false → (m ||| 2 ^ p) ^^^ 2 ^ p = m ∧ (m ||| 2 ^ p).testBit p = true := by decide +kernel
  exact this m hm p hp h
/-- what stands for x, when all sets above m, and m for places below p, have been gone through -/
def s_cu (V : am_V) (u l k m p x : Nat) : Nat := t_m (fun y => (t_An (s_M V) u l k y && x.testBit y) && decide (m < x ^^^ 2 ^ y ∨ (x ^^^ 2 ^ y = m ∧ y < p))) (fun y => s_TF V u l k (x ^^^ 2 ^ y) + s_hN V k y) (s_TF V u l k x) (s_rl V)
section FI
variable {d : Nat} {I V : am_V} {L : Nat → Nat → Int64} {R : am_R} {u l : Nat}
theorem TF_U {K m : Nat} : s_TF V u l K m ≤ 100000 := t_U K m
theorem cu_0 {k x : Nat} (hx : x < 64) (h6 : s_rl V ≤ 6) : s_cu V u l k 63 0 x = s_TF V u l k x := by
  refine t_m_eq (Nat.le_refl _) (fun p hp h => ?_) (Or.inl rfl)
  obtain ⟨h1, h2⟩ := Bool.and_eq_true_iff.mp h
  have h2 := of_decide_eq_true h2
  have h3 := xr_lt hx (by omega) (Bool.and_eq_true_iff.mp h1).2
  omega
theorem cu_end {k x : Nat} (hx : x < 64) : s_cu V u l k 0 (s_rl V) x = s_TF V u l (k + 1) x := by
  show t_m _ _ _ _ = t_m (fun y => t_An (s_M V) u l k y && x.testBit y) (fun y => s_TF V u l k (x ^^^ 2 ^ y) + s_hN V k y) (s_TF V u l k x) (s_rl V)
  have key : ∀ r, r ≤ s_rl V → t_m (fun y => (t_An (s_M V) u l k y && x.testBit y) && decide (0 < x ^^^ 2 ^ y ∨ (x ^^^ 2 ^ y = 0 ∧ y < s_rl V))) (fun y => s_TF V u l k (x ^^^ 2 ^ y) + s_hN V k y) (s_TF V u l k x) r = t_m (fun y => t_An (s_M V) u l k y && x.testBit y) (fun y => s_TF V u l k (x ^^^ 2 ^ y) + s_hN V k y) (s_TF V u l k x) r := by
    intro r
    induction r with
    | zero => exact fun _ => rfl
    | succ r ih =>
      intro hr
      unfold t_m
      rw [ih (by omega), decide_eq_true (show 0 < x ^^^ 2 ^ r ∨ (x ^^^ 2 ^ r = 0 ∧ r < s_rl V) by omega), Bool.and_true]
  exact key _ (Nat.le_refl _)
theorem cu_next {k m x : Nat} (hx : x < 64) (h6 : s_rl V ≤ 6) : s_cu V u l k (m + 1) (s_rl V) x = s_cu V u l k m 0 x := by
  unfold s_cu
  have key : ∀ r, r ≤ s_rl V → t_m (fun y => (t_An (s_M V) u l k y && x.testBit y) && decide (m + 1 < x ^^^ 2 ^ y ∨ (x ^^^ 2 ^ y = m + 1 ∧ y < s_rl V))) (fun y => s_TF V u l k (x ^^^ 2 ^ y) + s_hN V k y) (s_TF V u l k x) r = t_m (fun y => (t_An (s_M V) u l k y && x.testBit y) && decide (m < x ^^^ 2 ^ y ∨ (x ^^^ 2 ^ y = m ∧ y < 0))) (fun y => s_TF V u l k (x ^^^ 2 ^ y) + s_hN V k y) (s_TF V u l k x) r := by
    intro r
    induction r with
    | zero => exact fun _ => rfl
    | succ r ih =>
      intro hr
      unfold t_m
      have e : (m + 1 < x ^^^ 2 ^ r ∨ (x ^^^ 2 ^ r = m + 1 ∧ r < s_rl V)) ↔ (m < x ^^^ 2 ^ r ∨ (x ^^^ 2 ^ r = m ∧ r < 0)) := by omega
      rw [ih (by omega)]
      simp only [e]
  exact key _ (Nat.le_refl _)
theorem cu_U {k m p x : Nat} : s_cu V u l k m p x ≤ 100000 := Nat.le_trans (t_m_v _) TF_U
/-- a source stands as it was -/
theorem cu_src {k m p : Nat} (hm : m < 64) (h6 : s_rl V ≤ 6) : s_cu V u l k m p m = s_TF V u l k m := by
  refine t_m_eq (Nat.le_refl _) (fun y hy h => ?_) (Or.inl rfl)
  obtain ⟨h1, h2⟩ := Bool.and_eq_true_iff.mp h
  have h2 := of_decide_eq_true h2
  have h3 := xr_lt hm (by omega) (Bool.and_eq_true_iff.mp h1).2
  omega
/-- one place more -/
theorem cu_same {k m p x : Nat} (hx : x < 64) (hp : p < s_rl V) (h6 : s_rl V ≤ 6) (h : (x ^^^ 2 ^ p = m ∧ t_An (s_M V) u l k p = true ∧ x.testBit p = true) → s_cu V u l k m p x ≤ s_TF V u l k m + s_hN V k p) : s_cu V u l k m (p + 1) x = s_cu V u l k m p x := by
  refine t_m_eq (t_m_v _) (fun y hy hP => ?_) ?_
  · obtain ⟨h1, h2⟩ := Bool.and_eq_true_iff.mp hP
    have h2 := of_decide_eq_true h2
    by_cases e : x ^^^ 2 ^ y = m ∧ y = p
    · obtain ⟨e1, e2⟩ := e
      subst e2
      have := h ⟨e1, (Bool.and_eq_true_iff.mp h1).1, (Bool.and_eq_true_iff.mp h1).2⟩
      rw [e1]; exact this
    · refine t_m_f (P := fun y => (t_An (s_M V) u l k y && x.testBit y) && decide (m < x ^^^ 2 ^ y ∨ (x ^^^ 2 ^ y = m ∧ y < p))) (f := fun y => s_TF V u l k (x ^^^ 2 ^ y) + s_hN V k y) _ hy ?_
      rw [h1, decide_eq_true (show m < x ^^^ 2 ^ y ∨ (x ^^^ 2 ^ y = m ∧ y < p) by omega)]; rfl
  · rcases t_m_or (P := fun y => (t_An (s_M V) u l k y && x.testBit y) && decide (m < x ^^^ 2 ^ y ∨ (x ^^^ 2 ^ y = m ∧ y < p))) (f := fun y => s_TF V u l k (x ^^^ 2 ^ y) + s_hN V k y) (v := s_TF V u l k x) (s_rl V) with e | ⟨y, y1, y2, e⟩
    · exact Or.inl e
    · obtain ⟨h1, h2⟩ := Bool.and_eq_true_iff.mp y2
      have h2 := of_decide_eq_true h2
      refine Or.inr ⟨y, y1, ?_, e⟩
      rw [h1, decide_eq_true (show m < x ^^^ 2 ^ y ∨ (x ^^^ 2 ^ y = m ∧ y < p + 1) by omega)]; rfl
theorem cu_set {k m p : Nat} (hm : m < 64) (hp : p < s_rl V) (h6 : s_rl V ≤ 6) (hA : t_An (s_M V) u l k p = true) (hb : m.testBit p = false) (h : s_TF V u l k m + s_hN V k p ≤ s_cu V u l k m p (m ||| 2 ^ p)) : s_cu V u l k m (p + 1) (m ||| 2 ^ p) = s_TF V u l k m + s_hN V k p := by
  obtain ⟨ox, ob⟩ := or_xr hm (show p < 6 by omega) hb
  refine t_m_eq (Nat.le_trans h (t_m_v _)) (fun y hy hP => ?_) (Or.inr ⟨p, hp, ?_, by rw [ox]⟩)
  · obtain ⟨h1, h2⟩ := Bool.and_eq_true_iff.mp hP
    have h2 := of_decide_eq_true h2
    by_cases e : (m ||| 2 ^ p) ^^^ 2 ^ y = m ∧ y = p
    · obtain ⟨e1, e2⟩ := e
      rw [e1, e2]; exact Nat.le_refl _
    · refine Nat.le_trans h (t_m_f (P := fun y => (t_An (s_M V) u l k y && (m ||| 2 ^ p).testBit y) && decide (m < (m ||| 2 ^ p) ^^^ 2 ^ y ∨ ((m ||| 2 ^ p) ^^^ 2 ^ y = m ∧ y < p))) (f := fun y => s_TF V u l k ((m ||| 2 ^ p) ^^^ 2 ^ y) + s_hN V k y) _ hy ?_)
      rw [h1, decide_eq_true (show m < (m ||| 2 ^ p) ^^^ 2 ^ y ∨ ((m ||| 2 ^ p) ^^^ 2 ^ y = m ∧ y < p) by omega)]; rfl
  · rw [hA, ob, ox, decide_eq_true (show m < m ∨ (m = m ∧ p < p + 1) by omega)]; rfl
theorem TF_skip {k m : Nat} (h : u.testBit k = true) : s_TF V u l (k + 1) m = s_TF V u l k m := by
  refine t_m_eq (Nat.le_refl _) (fun p hp hP => ?_) (Or.inl rfl)
  have := (Bool.and_eq_true_iff.mp (Bool.and_eq_true_iff.mp hP).1).2
  rw [h] at this
  exact absurd this (by simp)
theorem FB {k m : Nat} (h6 : s_rl V ≤ 6) (h : s_TF V u l k m < 100000) : s_TF V u l k m ≤ 240 * s_pc m ∧ s_pc m ≤ 6 := by
  have ml : m < 2 ^ s_rl V := Classical.byContradiction (fun w => by have := t_big (c := s_hN V) (A := t_An (s_M V) u l) (U := 100000) k m w; unfold s_TF at h; omega)
  obtain ⟨a, a1, a2, a3⟩ := t_at (c := s_hN V) (A := t_An (s_M V) u l) (U := 100000) k m ml h
  have g := t_gs (c := s_hN V) (a := a) (n := 0) (fun k p => hN_le k p) (s_rl V)
  have e : s_pc m = t_s t_1 a (s_rl V) := by unfold s_pc; rw [t_pc6 h6 ml, t_pc _ a2]
  refine ⟨?_, cnt_le 6⟩
  rw [e]
  show t_L (s_hN V) (t_An (s_M V) u l) (s_rl V) 100000 k m ≤ _
  rw [← a3]; exact g.2.1
theorem ok_M_fill (hd : 1 ≤ d) (hv : Inv V) (ha : s_alo V = true) (h6 : s_rl V ≤ 6) (hp0 : w_pv V I) (h : ∀ I', w_ff I' I → w_fa I' (s_TF V u l (am_n V 113 4)) → R none (am_mk I' L, 0, 0)) : am_meth d 232 [.ref 113, .int (nI u), .int (nI l)] (am_mk I L, 0, 0) R := by
  obtain ⟨d, rfl⟩ : ∃ e, d = e + 1 := ⟨d - 1, by omega⟩
  have hk := hv.1.2.1
  have hk2 := hk.2
  have hr := rl_12 hv
  have pvf : ∀ I', w_ff I' I → w_pv V I' := fun I' f => by
    obtain ⟨a, b, c⟩ := hp0
    refine ⟨⟨fun x hx => ?_, fun j hj => ?_⟩, fun k hk => ?_, fun k hk => ?_⟩
    · rw [f x (by simp only [am_pc, decide_eq_true_eq] at hx; omega) (by simp only [am_pc, decide_eq_true_eq] at hx; omega)]; exact a.1 x hx
    · rw [f 113 (by decide) (by decide)]; exact a.2 j hj
    · rw [f 153 (by decide) (by decide)]; exact b k hk
    · rw [f 154 (by decide) (by decide)]; exact c k hk
  refine ar_in rfl rfl rfl (r_M_fill_0 ?_)
  -- the keepers
  have keep : ∀ (I' : am_V), w_ff I' I → w_fa I' (s_TF V u l 0) → am_Run am_X0 (am_meth d) 232 R 37 [some (.ref 113), some (.int (nI u)), some (.int (nI l)), some (.int 0), none, none, none, none] [] (am_mk I' L, 0, 0) := by
    intro I' f1 f2
    refine am_up (P := fun k => ∀ (I' : am_V), w_ff I' I → w_fa I' (s_TF V u l k) → am_Run am_X0 (am_meth d) 232 R 37 [some (.ref 113), some (.int (nI u)), some (.int (nI l)), some (.int (nI k)), none, none, none, none] [] (am_mk I' L, 0, 0)) (n := am_n V 113 4) (fun I' f1 f2 => ?_) (fun k hk4 ih I' f1 f2 => ?_) I' f1 f2
    · have en : I' 113 4 = nI (am_n V 113 4) := by rw [(pvf I' f1).1.2 4 rfl]; exact hk.1
      exact r_M_fill_37 ⟨fun c => absurd (en ▸ c) (nI_nlt (Nat.le_refl _) (by omega)), fun _ => h I' f1 f2⟩
    · have en : I' 113 4 = nI (am_n V 113 4) := by rw [(pvf I' f1).1.2 4 rfl]; exact hk.1
      refine r_M_fill_37 ⟨fun _ => ?_, fun c => absurd (by rw [en]; exact nI_lt hk4 (by omega)) c⟩
      rw [bt_t (by omega), bt_nI (by omega)]
      refine ⟨fun c => ih I' f1 (fun x hx => by rw [TF_skip c]; exact f2 x hx), fun c => ?_⟩
      have cu : u.testBit k = false := Bool.eq_false_iff.mpr c
      have sets : ∀ j (I' : am_V), j ≤ 64 → w_ff I' I → (0 < j → w_fa I' (s_cu V u l k (j - 1) 0)) → (j = 0 → w_fa I' (s_TF V u l (k + 1))) → am_Run am_X0 (am_meth d) 232 R 61 [some (.ref 113), some (.int (nI u)), some (.int (nI l)), some (.int (nI k)), some (.int (nI j - 1)), none, none, none] [] (am_mk I' L, 0, 0) := by
        intro j
        induction j with
        | zero =>
          intro I' _ g1 _ g3
          exact r_M_fill_61 ⟨fun _ => ih I' g1 (g3 rfl), fun z => absurd (by decide) z⟩
        | succ m ihm =>
          intro I' hj g1 g2 _
          have g2 : w_fa I' (s_cu V u l k m 0) := g2 (by omega)
          have m64 : m < 64 := by omega
          rw [nI_pred]
          -- the next set
          have nxt : ∀ (I2 : am_V), w_ff I2 I → w_fa I2 (s_cu V u l k m (s_rl V)) → am_Run am_X0 (am_meth d) 232 R 61 [some (.ref 113), some (.int (nI u)), some (.int (nI l)), some (.int (nI k)), some (.int (nI m + (-1))), none, none, none] [] (am_mk I2 L, 0, 0) := by
            intro I2 w1 w2
            rw [← Int32.sub_eq_add_neg]
            refine ihm I2 (by omega) w1 (fun hm x hx => ?_) (fun hm x hx => ?_)
            · rw [← cu_next hx h6, show m - 1 + 1 = m from by omega]; exact w2 x hx
            · have := w2 x hx
              rw [hm, cu_end hx] at this; exact this
          have src : s_cu V u l k m 0 m = s_TF V u l k m := cu_src m64 h6
          have gm := g2 m m64
          rw [src] at gm
          refine r_M_fill_61 ⟨fun z => absurd z (nI_pos (by omega)), fun _ => ⟨m, m64, rfl, fun c2 => ?_, fun c2 => ?_⟩⟩
          · have un : ¬ s_TF V u l k m < 100000 := fun q => by
              rw [(gm.1 q).1] at c2
              have : s_pc m ≤ 6 := cnt_le 6
              exact absurd c2 (nI_pos (by omega))
            refine nxt I' g1 (fun x hx => ?_)
            have e : ∀ p, p ≤ s_rl V → s_cu V u l k m p x = s_cu V u l k m 0 x := by
              intro p
              induction p with
              | zero => exact fun _ => rfl
              | succ p ihp =>
                intro hp
                rw [cu_same hx (by omega) h6 (fun _ => by have := cu_U (V := V) (u := u) (l := l) (k := k) (m := m) (p := p) (x := x); omega), ihp (by omega)]
            rw [e _ (Nat.le_refl _)]; exact g2 x hx
          · have re : s_TF V u l k m < 100000 := Classical.byContradiction (fun q => c2 (by rw [gm.2 q]; decide))
            refine am_up (P := fun p => ∀ (I' : am_V), w_ff I' I → w_fa I' (s_cu V u l k m p) → am_Run am_X0 (am_meth d) 232 R 82 [some (.ref 113), some (.int (nI u)), some (.int (nI l)), some (.int (nI k)), some (.int (nI m)), some (.int (nI p)), none, none] [] (am_mk I' L, 0, 0)) (n := s_rl V) (fun I' w1 w2 => ?_) (fun p hp ih2 I' w1 w2 => ?_) I' g1 g2
            · have en : I' 113 39 = nI (s_rl V) := by rw [(pvf I' w1).1.2 39 rfl]; exact hr.1
              exact r_M_fill_82 ⟨fun c => absurd (en ▸ c) (nI_nlt (Nat.le_refl _) (by omega)), fun _ => nxt I' w1 w2⟩
            · have pv := pvf I' w1
              have en : I' 113 39 = nI (s_rl V) := by rw [pv.1.2 39 rfl]; exact hr.1
              have skip : (∀ x, x < 64 → (x ^^^ 2 ^ p = m ∧ t_An (s_M V) u l k p = true ∧ x.testBit p = true) → s_cu V u l k m p x ≤ s_TF V u l k m + s_hN V k p) → am_Run am_X0 (am_meth d) 232 R 82 [some (.ref 113), some (.int (nI u)), some (.int (nI l)), some (.int (nI k)), some (.int (nI m)), some (.int (nI (p + 1))), none, none] [] (am_mk I' L, 0, 0) := fun q => ih2 I' w1 (fun x hx => by rw [cu_same hx hp h6 (q x hx)]; exact w2 x hx)
              refine r_M_fill_82 ⟨fun _ => ?_, fun c => absurd (by rw [en]; exact nI_lt hp (by omega)) c⟩
              rw [bt_f (by omega), bt_nI (by omega), bt_t (by omega), bt_nI (by omega), bt_f (by omega), pv.2.1 k hk4 p hp]
              refine ⟨fun q => skip (fun x hx z => ?_), fun q => ⟨fun q2 => skip (fun x hx z => ?_), fun q2 => ⟨by omega, fun q3 => skip (fun x hx z => ?_), fun q3 => ⟨m64, 6 * k + p, by omega, nI_k6 k p, m ||| 2 ^ p, ?_, ?_, ?_⟩⟩⟩⟩
              · have := z.2.1
                unfold t_An at this
                rw [q] at this
                exact absurd this (by simp)
              · have := (xr_or hx (show p < 6 by omega) z.2.2).1
                rw [z.1, q2] at this
                exact absurd this (by decide)
              · have := z.2.1
                unfold t_An at this
                rw [q3] at this
                exact absurd this (by simp)
              · exact (pc_or m64 (by omega) (Bool.eq_false_iff.mpr q2)).2
              · rw [sh_2 (by omega), nI_or]
              · have q := am_bnf q
                have q2 := Bool.eq_false_iff.mpr q2
                have q3 := am_bnf q3
                have hA : t_An (s_M V) u l k p = true := by unfold t_An; rw [q3, cu, q]; rfl
                have po := pc_or m64 (show p < 6 by omega) q2
                have ox := or_xr m64 (show p < 6 by omega) q2
                have srcp : s_cu V u l k m p m = s_TF V u l k m := cu_src m64 h6
                have wm := w2 m m64
                rw [srcp] at wm
                have wm := wm.1 re
                have wt := w2 (m ||| 2 ^ p) po.2
                have k20 : k < 20 := by omega
                have e154 : I' 154 (6 * k + p) = nI (s_hN V k p) := by rw [pv.2.2 k hk4 p hp]; exact hN_e hv ha k20 hp
                have h240 := hN_le (V := V) k p
                have pcm : s_pc m ≤ 6 := cnt_le 6
                rw [e154, wm.1, wm.2, nI_add, nI_1]
                have put : s_TF V u l k m + s_hN V k p ≤ s_cu V u l k m p (m ||| 2 ^ p) → am_Run am_X0 (am_meth d) 232 R 82 [some (.ref 113), some (.int (nI u)), some (.int (nI l)), some (.int (nI k)), some (.int (nI m)), some (.int (nI (p + 1))), none, none] [] (am_mk (va_up (va_up I' 151 (upd (I' 151) (m ||| 2 ^ p) (nI (s_pc m + 1)))) 152 (upd (I' 152) (m ||| 2 ^ p) (nI (s_TF V u l k m + s_hN V k p)))) L, 0, 0) := by
                  intro le
                  have cs := cu_set m64 hp h6 hA q2 le
                  refine ih2 _ (fun c h1 h2 => by rw [am_vat, if_neg h2, am_vat, if_neg h1]; exact w1 c h1 h2) (fun x hx => ?_)
                  show (_ → upd (I' 151) (m ||| 2 ^ p) (nI (s_pc m + 1)) x = _ ∧ upd (I' 152) (m ||| 2 ^ p) (nI (s_TF V u l k m + s_hN V k p)) x = _) ∧ (_ → upd (I' 151) (m ||| 2 ^ p) (nI (s_pc m + 1)) x = -1)
                  by_cases e : x = m ||| 2 ^ p
                  · subst e
                    rw [upd_at, upd_at, cs, po.1]
                    refine ⟨fun _ => ⟨rfl, rfl⟩, fun z => ?_⟩
                    have := cu_U (V := V) (u := u) (l := l) (k := k) (m := m) (p := p) (x := m ||| 2 ^ p)
                    exfalso
                    rcases Nat.lt_or_ge (s_TF V u l k m + s_hN V k p) 100000 with w | w
                    · exact z w
                    · have := FB h6 re
                      omega
                  · rw [upd_ne e, upd_ne e, cu_same hx hp h6 (fun z => absurd ((xr_or hx (show p < 6 by omega) z.2.2).2.symm.trans (by rw [z.1])) e)]
                    exact w2 x hx
                refine ⟨fun q4 => ?_, fun q4 => ⟨fun q5 => ?_, fun q5 => ?_⟩⟩
                · have un : ¬ s_cu V u l k m p (m ||| 2 ^ p) < 100000 := fun z => by
                    rw [(wt.1 z).1] at q4
                    have : s_pc (m ||| 2 ^ p) ≤ 6 := cnt_le 6
                    exact absurd q4 (nI_pos (by omega))
                  rintro _ rfl _ rfl
                  refine put ?_
                  have := FB h6 re
                  omega
                · have re2 : s_cu V u l k m p (m ||| 2 ^ p) < 100000 := Classical.byContradiction (fun z => q4 (by rw [wt.2 z]; decide))
                  rw [(wt.1 re2).2, nI_leI (by omega) (by omega)] at q5
                  refine skip (fun x hx z => ?_)
                  have := (xr_or hx (show p < 6 by omega) z.2.2).2
                  rw [z.1] at this
                  rw [← this]; exact q5
                · have re2 : s_cu V u l k m p (m ||| 2 ^ p) < 100000 := Classical.byContradiction (fun z => q4 (by rw [wt.2 z]; decide))
                  rw [(wt.1 re2).2, nI_leI (by omega) (by omega)] at q5
                  rintro _ rfl _ rfl
                  exact put (by omega)
      have e63 : (63 : Int32) = nI 64 - 1 := by decide
      rw [e63]
      exact sets 64 I' (Nat.le_refl _) f1 (fun _ x hx => by rw [cu_0 hx h6]; exact f2 x hx) (fun z => by omega)
  refine am_up (P := fun m => ∀ (I' : am_V), w_ff I' I → (∀ x, x < m → I' 151 x = -1 ∧ I' 152 x = 0) → am_Run am_X0 (am_meth d) 232 R 2 [some (.ref 113), some (.int (nI u)), some (.int (nI l)), some (.int (nI m)), none, none, none, none] [] (am_mk I' L, 0, 0)) (n := 64) (fun I' f1 f2 => ?_) (fun m hm ih I' f1 f2 => ?_) I (fun _ _ _ => rfl) (fun x hx => absurd hx (Nat.not_lt_zero x))
  · refine r_M_fill_2 ⟨fun c => absurd c (by decide), fun _ => ?_⟩
    rintro _ rfl
    refine keep _ (fun c h1 h2 => by rw [am_vat, if_neg h1]; exact f1 c h1 h2) (fun x hx => ?_)
    show ((if x = 0 then 0 else 100000) < 100000 → upd (I' 151) 0 0 x = nI (s_pc x) ∧ I' 152 x = nI (if x = 0 then 0 else 100000)) ∧ (¬ (if x = 0 then 0 else 100000) < 100000 → upd (I' 151) 0 0 x = -1)
    by_cases e : x = 0
    · subst e
      rw [if_pos rfl, upd_at]
      exact ⟨fun _ => ⟨by decide, (f2 0 hx).2⟩, fun z => absurd (by decide) z⟩
    · rw [if_neg e, upd_ne e]
      exact ⟨fun z => absurd z (by decide), fun _ => (f2 x hx).1⟩
  · refine r_M_fill_2 ⟨fun _ => ⟨hm, ?_⟩, fun c => absurd (nI_lt (b := 64) hm (by decide)) c⟩
    rintro _ rfl _ rfl
    refine ih _ (fun c h1 h2 => by rw [am_vat, if_neg h2, am_vat, if_neg h1]; exact f1 c h1 h2) (fun x hx => ?_)
    show upd (I' 151) m (-1) x = -1 ∧ upd (I' 152) m 0 x = 0
    by_cases e : x = m
    · rw [e, upd_at, upd_at]; exact ⟨rfl, rfl⟩
    · rw [upd_ne e, upd_ne e]; exact f2 x (by omega)
end FI
