/-! groups -/
theorem am_bnf {b : Bool} (h : ¬ b = false) : b = true := by cases b with | false => exact absurd rfl h | true => rfl
def s_gi (f : Nat → Int32) (n w : Nat) : Nat → Nat → Bool
  | 0, k => decide (k = w)
  | m + 1, k => s_gi f n w m k || (decide (k < n) && s_any (fun g => s_gi f n w m g && s_alf f g k) n)
def s_cl (f : Nat → Int32) (n : Nat) (S : Nat → Bool) : Prop := ∀ a b, a < n → b < n → S a = true → s_alf f a b = true → S b = true
def s_cnt (S : Nat → Bool) : Nat → Nat
  | 0 => 0
  | k + 1 => if S k = true then s_cnt S k + 1 else s_cnt S k
theorem cnt_le {S : Nat → Bool} (n : Nat) : s_cnt S n ≤ n := by
  induction n with
  | zero => exact Nat.le_refl _
  | succ n ih => unfold s_cnt; split <;> omega
theorem cnt_mono {S T : Nat → Bool} {n : Nat} (h : ∀ k, k < n → S k = true → T k = true) : s_cnt S n ≤ s_cnt T n := by
  induction n with
  | zero => exact Nat.le_refl _
  | succ n ih =>
    have i := ih (fun k hk => h k (by omega))
    unfold s_cnt
    by_cases c : S n = true
    · rw [if_pos c, if_pos (h n (by omega) c)]; omega
    · rw [if_neg c]; split <;> omega
theorem cnt_lt {S T : Nat → Bool} {n b : Nat} (h : ∀ k, k < n → S k = true → T k = true) (hb : b < n) (h1 : ¬ S b = true) (h2 : T b = true) : s_cnt S n < s_cnt T n := by
  induction n with
  | zero => omega
  | succ n ih =>
    by_cases e : b = n
    · subst e
      have i := cnt_mono (n := b) (fun k hk => h k (by omega))
      unfold s_cnt
      rw [if_neg h1, if_pos h2]; omega
    · have i := ih (fun k hk => h k (by omega)) (by omega)
      unfold s_cnt
      by_cases c : S n = true
      · rw [if_pos c, if_pos (h n (by omega) c)]; omega
      · rw [if_neg c]; split <;> omega
theorem gi_sub {f : Nat → Int32} {n w m k : Nat} (h : s_gi f n w m k = true) : s_gi f n w (m + 1) k = true := by rw [s_gi, h, Bool.true_or]
theorem gi_stable {f : Nat → Int32} {n w m : Nat} (h : s_cl f n (s_gi f n w m)) : ∀ k, s_gi f n w (m + 1) k = s_gi f n w m k := by
  intro k
  rw [s_gi]
  rcases q : s_gi f n w m k with _ | _
  · rw [Bool.false_or]
    rcases q2 : (decide (k < n) && s_any (fun g => s_gi f n w m g && s_alf f g k) n) with _ | _
    · rfl
    · obtain ⟨a1, a2⟩ := Bool.and_eq_true_iff.mp q2
      obtain ⟨g, hg, e⟩ := s_any_ex a2
      obtain ⟨b1, b2⟩ := Bool.and_eq_true_iff.mp e
      have := h g k hg (decide_eq_true_iff.mp a1) b1 b2
      rw [q] at this
      exact this.symm
  · rw [Bool.true_or]
theorem gi_cl {f : Nat → Int32} {n w : Nat} (hw : w < n) (m : Nat) : s_cl f n (s_gi f n w m) ∨ m + 1 ≤ s_cnt (s_gi f n w m) n := by
  induction m with
  | zero =>
    right
    have : s_cnt (fun _ => false) n < s_cnt (s_gi f n w 0) n := cnt_lt (b := w) (fun _ _ q => absurd q (by decide)) hw (by decide) (by rw [s_gi]; exact decide_eq_true_iff.mpr rfl)
    omega
  | succ m ih =>
    by_cases c : s_cl f n (s_gi f n w m)
    · left
      have e := gi_stable c
      intro a b ha hb h1 h2
      rw [e] at h1 ⊢
      exact c a b ha hb h1 h2
    · right
      have i := ih.resolve_left c
      apply Classical.byContradiction
      intro q
      apply c
      intro a b ha hb h1 h2
      apply Classical.byContradiction
      intro q2
      have := cnt_lt (S := s_gi f n w m) (T := s_gi f n w (m + 1)) (fun k _ z => gi_sub z) hb q2 (by rw [s_gi, decide_eq_true_iff.mpr hb, s_any_of (P := fun g => s_gi f n w m g && s_alf f g b) ha (by rw [h1, h2]; rfl), Bool.and_true, Bool.or_true])
      omega
theorem gi_n {f : Nat → Int32} {n w : Nat} (hw : w < n) : s_cl f n (s_gi f n w n) := (gi_cl hw n).resolve_right (by have := cnt_le (S := s_gi f n w n) n; omega)
theorem gi_more {f : Nat → Int32} {n w m : Nat} (h : s_cl f n (s_gi f n w m)) (j : Nat) : ∀ k, s_gi f n w (m + j) k = s_gi f n w m k := by
  induction j with
  | zero => exact fun _ => rfl
  | succ j ih =>
    intro k
    have c : s_cl f n (s_gi f n w (m + j)) := fun a b ha hb h1 h2 => by rw [ih] at h1 ⊢; exact h a b ha hb h1 h2
    rw [show m + (j + 1) = m + j + 1 from rfl, gi_stable c, ih]
theorem gi_w {f : Nat → Int32} {n w : Nat} (m : Nat) : s_gi f n w m w = true := by
  induction m with
  | zero => exact decide_eq_true_iff.mpr rfl
  | succ m ih => exact gi_sub ih
theorem gi_lt {f : Nat → Int32} {n w : Nat} (hw : w < n) (m k : Nat) (h : s_gi f n w m k = true) : k < n := by
  induction m generalizing k with
  | zero => rw [s_gi, decide_eq_true_iff] at h; omega
  | succ m ih =>
    rw [s_gi] at h
    rcases Bool.or_eq_true_iff.mp h with q | q
    · exact ih k q
    · exact decide_eq_true_iff.mp (Bool.and_eq_true_iff.mp q).1
def s_ls (S : Nat → Bool) : Nat → Nat
  | 0 => 0
  | w + 1 => if s_any S w = true then s_ls S w else w
theorem any_f {S : Nat → Bool} {n : Nat} (h : ∀ i, i < n → S i = false) : ¬ s_any S n = true := fun q => by
  obtain ⟨s, hs, e⟩ := s_any_ex q
  rw [h s hs] at e; exact Bool.noConfusion e
theorem ls_e {S : Nat → Bool} {z w : Nat} (hz : S z = true) (h : ∀ i, i < z → S i = false) (hw : z ≤ w) : s_ls S (w + 1) = z := by
  induction w with
  | zero =>
    have : z = 0 := by omega
    subst this; rfl
  | succ w ih =>
    rw [s_ls]
    by_cases e : z = w + 1
    · subst e; rw [if_neg (any_f h)]
    · rw [if_pos (s_any_of (by omega) hz)]
      exact ih (by omega)
section GR
variable {d : Nat} {I V : am_V} {L : Nat → Nat → Int64} {R : am_R}
theorem ok_Ke_isAlikeToOneOf {g : Int32} {k n : Nat} (hd : 2 ≤ d) (hn : I 16 0 = nI n) (h20 : n ≤ 20) (hk : k < 20) (h1 : s_any (fun x => am_bt g x && s_alf (I 20) x k) n = true → R (some (.int 1)) (am_mk I L, 0, 0)) (h0 : s_any (fun x => am_bt g x && s_alf (I 20) x k) n = false → R (some (.int 0)) (am_mk I L, 0, 0)) : am_meth d 58 [.ref 16, .int g, .int (nI k)] (am_mk I L, 0, 0) R := by
  obtain ⟨d, rfl⟩ : ∃ e, d = e + 1 := ⟨d - 1, by omega⟩
  refine ar_in rfl rfl rfl (r_Keepers_isAlikeToOneOf_0 ?_)
  refine am_up (P := fun j => s_any (fun x => am_bt g x && s_alf (I 20) x k) j = false → am_Run am_X0 (am_meth d) 58 R 2 [some (.ref 16), some (.int g), some (.int (nI k)), some (.int (nI j))] [] (am_mk I L, 0, 0)) (n := n) (fun hf => ?_) (fun j hj ih hf => ?_) rfl
  · exact r_Keepers_isAlikeToOneOf_2 (by omega) ⟨fun c => absurd (hn ▸ c) (nI_nlt (Nat.le_refl _) (by omega)), fun _ => h0 hf⟩
  · refine r_Keepers_isAlikeToOneOf_2 (by omega) ⟨fun _ => ⟨fun c => ⟨by omega, hk, fun c2 => ?_, fun c2 => ?_⟩, fun c => ?_⟩, fun c => absurd (by rw [hn]; exact nI_lt hj (by omega)) c⟩
    · rw [bt_t (by omega)] at c
      exact h1 (s_any_of hj (by rw [c, c2]; rfl))
    · refine ih ?_
      rw [s_any, hf, Bool.eq_false_iff.mpr c2, Bool.and_false]; rfl
    · rw [bt_t (by omega)] at c
      refine ih ?_
      rw [s_any, hf, Bool.eq_false_iff.mpr c, Bool.false_and]; rfl
theorem ok_Ke_withThoseAlike {g : Int32} {n : Nat} (hd : 3 ≤ d) (hn : I 16 0 = nI n) (h20 : n ≤ 20) (h : ∀ z, (∀ k, k < 32 → am_bt z k = (am_bt g k || (decide (k < n) && s_any (fun x => am_bt g x && s_alf (I 20) x k) n))) → R (some (.int z)) (am_mk I L, 0, 0)) : am_meth d 57 [.ref 16, .int g] (am_mk I L, 0, 0) R := by
  obtain ⟨d, rfl⟩ : ∃ e, d = e + 1 := ⟨d - 1, by omega⟩
  refine ar_in rfl rfl rfl (r_Keepers_withThoseAlike_0 ?_)
  refine am_up (P := fun j => ∀ w, (∀ k, k < 32 → am_bt w k = (am_bt g k || (decide (k < j) && s_any (fun x => am_bt g x && s_alf (I 20) x k) n))) → am_Run am_X0 (am_meth d) 57 R 4 [some (.ref 16), some (.int g), some (.int w), some (.int (nI j))] [] (am_mk I L, 0, 0)) (n := n) (fun w hw => ?_) (fun j hj ih w hw => ?_) g (fun k hk => by rw [decide_eq_false (Nat.not_lt_zero k), Bool.false_and, Bool.or_false])
  · exact r_Keepers_withThoseAlike_4 ⟨fun c => absurd (hn ▸ c) (nI_nlt (Nat.le_refl _) (by omega)), fun _ => h w hw⟩
  · have hwj := hw j (by omega)
    rw [decide_eq_false (Nat.lt_irrefl j), Bool.false_and, Bool.or_false] at hwj
    have dl : ∀ k, k ≠ j → decide (k < j + 1) = decide (k < j) := fun k hk => by
      by_cases q : k < j
      · rw [decide_eq_true q, decide_eq_true (by omega : k < j + 1)]
      · rw [decide_eq_false q, decide_eq_false (by omega : ¬ k < j + 1)]
    refine r_Keepers_withThoseAlike_4 ⟨fun _ => ⟨fun c => ?_, fun c => ?_⟩, fun c => absurd (by rw [hn]; exact nI_lt hj (by omega)) c⟩
    · rw [bt_f (by omega), hwj] at c
      refine ok_Ke_isAlikeToOneOf (n := n) (by omega) hn h20 (by omega) (fun q => ⟨_, _, _, rfl, rfl, fun z => absurd z (by decide), fun _ => ih _ (fun k hk => ?_)⟩) (fun q => ⟨_, _, _, rfl, rfl, fun _ => ih _ (fun k hk => ?_), fun z => absurd rfl z⟩)
      · rw [bt_or (by omega) hk, hw k hk]
        by_cases e : k = j
        · subst e
          rw [decide_eq_true rfl, decide_eq_true (by omega : k < k + 1), q, Bool.or_true, Bool.true_and, Bool.or_true]
        · rw [decide_eq_false e, Bool.or_false, dl k e]
      · rw [hw k hk]
        by_cases e : k = j
        · subst e
          rw [q, Bool.and_false, Bool.and_false]
        · rw [dl k e]
    · rw [bt_f (by omega), hwj] at c
      refine ih _ (fun k hk => ?_)
      rw [hw k hk]
      by_cases e : k = j
      · subst e
        rw [am_bnf c, Bool.true_or, Bool.true_or]
      · rw [dl k e]
theorem ok_Ke_leastOfGroup {k n : Nat} (hd : 4 ≤ d) (hn : I 16 0 = nI n) (h20 : n ≤ 20) (hk : k < n) (h : R (some (.int (nI (s_ls (s_gi (I 20) n k 20) (k + 1))))) (am_mk I L, 0, 0)) : am_meth d 56 [.ref 16, .int (nI k)] (am_mk I L, 0, 0) R := by
  obtain ⟨d, rfl⟩ : ∃ e, d = e + 1 := ⟨d - 1, by omega⟩
  refine ar_in rfl rfl rfl (r_Keepers_leastOfGroup_0 ?_)
  have fin : ∀ g, (∀ x, x < 32 → am_bt g x = s_gi (I 20) n k 20 x) → am_Run am_X0 (am_meth d) 56 R 39 [some (.ref 16), some (.int (nI k)), some (.int g), some (.int 0), none] [] (am_mk I L, 0, 0) := by
    intro g hg
    refine am_up (P := fun j => (∀ i, i < j → s_gi (I 20) n k 20 i = false) → am_Run am_X0 (am_meth d) 56 R 39 [some (.ref 16), some (.int (nI k)), some (.int g), some (.int (nI j)), none] [] (am_mk I L, 0, 0)) (n := k) (fun hf => ?_) (fun j hj ih hf => ?_) (fun i hi => absurd hi (Nat.not_lt_zero i))
    · refine r_Keepers_leastOfGroup_39 ⟨fun c => absurd c (nI_nlt (Nat.le_refl _) (by omega)), fun _ => ?_⟩
      rw [ls_e (gi_w 20) hf (Nat.le_refl _)] at h
      exact h
    · refine r_Keepers_leastOfGroup_39 ⟨fun _ => ⟨fun c => ?_, fun c => ?_⟩, fun c => absurd (nI_lt hj (by omega)) c⟩
      · rw [bt_t (by omega), hg j (by omega)] at c
        rw [ls_e c hf (by omega)] at h
        exact h
      · rw [bt_t (by omega), hg j (by omega)] at c
        refine ih (fun i hi => ?_)
        by_cases e : i = j
        · subst e; exact Bool.eq_false_iff.mpr c
        · exact hf i (by omega)
  refine am_up (P := fun j => ∀ g, (∀ x, x < 32 → am_bt g x = s_gi (I 20) n k j x) → am_Run am_X0 (am_meth d) 56 R 6 [some (.ref 16), some (.int (nI k)), some (.int g), some (.int (nI j)), none] [] (am_mk I L, 0, 0)) (n := 20) (fun g hg => ?_) (fun j hj ih g hg => ?_) _ (fun x hx => ?_)
  · exact r_Keepers_leastOfGroup_6 ⟨fun c => absurd c (by decide), fun _ => fin g hg⟩
  · refine r_Keepers_leastOfGroup_6 ⟨fun _ => ?_, fun c => absurd (nI_lt (b := 20) hj (by decide)) c⟩
    refine ok_Ke_withThoseAlike (n := n) (by omega) hn h20 (fun z hz => ⟨_, _, _, rfl, rfl, ?_⟩)
    have hz2 : ∀ x, x < 32 → am_bt z x = s_gi (I 20) n k (j + 1) x := fun x hx => by
      rw [hz x hx, s_gi, hg x hx]
      congr 2
      exact s_any_congr (fun s hs => by rw [hg s (by omega)])
    refine ⟨fun c => ?_, fun _ => ih z hz2⟩
    subst c
    refine fin z (fun x hx => ?_)
    have cl : s_cl (I 20) n (s_gi (I 20) n k j) := fun a b ha hb h1 h2 => by
      rw [← hg b (by omega), hz2 b (by omega), s_gi, decide_eq_true_iff.mpr hb, s_any_of (P := fun g => s_gi (I 20) n k j g && s_alf (I 20) g b) ha (by rw [h1, h2]; rfl), Bool.and_true, Bool.or_true]
    have m := gi_more cl (20 - j) x
    rw [show j + (20 - j) = 20 from by omega] at m
    rw [hg x hx, m]
  · rw [bt_sh (by omega) hx, s_gi]
def o_group (V : am_V) (k : Int32) : Int32 × am_V := if 0 ≤ k ∧ k < V 113 4 then (nI (s_ls (s_gi (V 120) (am_n V 113 4) k.toNatClampNeg 20) (k.toNatClampNeg + 1)), V) else o_no V 1 (-1)
theorem C_group {k : Int32} (hd : 5 ≤ d) (hc : RC I V) (hv : Inv V) (h : ∀ I' L', RC I' (o_group V k).2 → am_hi I' I → R (some (.int (o_group V k).1)) (am_mk I' L', 0, 0)) : am_meth d 37 [.ref 0, .int k] (am_mk I L, 0, 0) R := by
  obtain ⟨d, rfl⟩ : ∃ e, d = e + 1 := ⟨d - 1, by omega⟩
  refine ar_in rfl rfl rfl (r_H_group_0 (by omega) ?_)
  obtain ⟨⟨n1, n2, n3, n4, n5, n6, n7, n8⟩, ⟨e1, e2, e3, e4, e5, e6, e7, e8, e9, e10, e11, e12, e13, e14, e15, e16, e17⟩, -⟩ := id hc
  rw [n1]
  unfold o_group at h
  have hh := hv.1.2.1
  have hh2 := hh.2
  refine ⟨fun c => ?_, fun c => ?_⟩
  · rw [if_pos c] at h
    rw [hh.1] at c
    obtain ⟨i, hi, rfl⟩ := am_nat c (by omega)
    rw [nI_clamp (by omega)] at h
    refine ok_Ke_leastOfGroup (n := am_n V 113 4) (by omega) (by rw [n1]; exact hh.1) (by omega) hi ⟨_, _, _, rfl, rfl, ?_⟩
    rw [e7]
    exact h _ _ hc hi_r
  · (rw [if_neg c] at h; exact h _ _ (RC_no hc) (hi_up (by decide) hi_r))
theorem M_group {k : Int32} (hd : 5 ≤ d) (hm : RM I V) (hv : Inv V) (h : ∀ I' L', RM I' (o_group V k).2 → am_lo I' I → R (some (.int (o_group V k).1)) (am_mk I' L', 0, 0)) : am_meth d 233 [.ref 113, .int k] (am_mk I L, 0, 0) R := by
  obtain ⟨d, rfl⟩ : ∃ e, d = e + 1 := ⟨d - 1, by omega⟩
  refine ar_in rfl rfl rfl (r_M_group_0 (by omega) ?_)
  have mc := hm.1; have mf := hm.2
  rw [mf 4 rfl]
  unfold o_group at h
  have hh := hv.1.2.1
  have hh2 := hh.2
  refine ⟨fun c => ?_, fun c => ?_⟩
  · rw [if_pos c] at h
    rw [hh.1] at c
    obtain ⟨w, hi, rfl⟩ := am_nat c (by omega)
    rw [nI_clamp (by omega)] at h
    have en : I 113 4 = nI (am_n V 113 4) := by rw [mf 4 rfl]; exact hh.1
    have e120 : I 120 = V 120 := mc 120 rfl
    generalize am_n V 113 4 = n at *
    have cl20 : ∀ x, s_gi (V 120) n w 20 x = s_gi (V 120) n w n x := fun x => by
      have m := gi_more (gi_n (f := V 120) hi) (20 - n) x
      rw [show n + (20 - n) = 20 from by omega] at m
      exact m
    have fin : ∀ g, (∀ x, x < 32 → am_bt g x = s_gi (V 120) n w 20 x) → am_Run am_X0 (am_meth d) 233 R 102 [some (.ref 113), none, some (.int g), some (.int 0), none, none] [] (am_mk I L, 0, 0) := by
      intro g hg
      refine am_up (P := fun j => (∀ i, i < j → s_gi (V 120) n w 20 i = false) → am_Run am_X0 (am_meth d) 233 R 102 [some (.ref 113), none, some (.int g), some (.int (nI j)), none, none] [] (am_mk I L, 0, 0)) (n := w) (fun hf => ?_) (fun j hj ih hf => ?_) (fun i hi => absurd hi (Nat.not_lt_zero i))
      · refine r_M_group_102 ⟨fun c => ?_, fun _ => ?_⟩
        · rw [bt_f (by omega), hg w (by omega), gi_w] at c; exact Bool.noConfusion c
        · rw [ls_e (gi_w 20) hf (Nat.le_refl _)] at h
          exact h _ _ hm lo_r
      · refine r_M_group_102 ⟨fun c => ?_, fun c => ?_⟩
        · rw [bt_f (by omega), hg j (by omega)] at c
          refine ih (fun i hi => ?_)
          by_cases e : i = j
          · subst e; exact c
          · exact hf i (by omega)
        · rw [bt_f (by omega), hg j (by omega)] at c
          rw [ls_e (am_bnf c) hf (by omega)] at h
          exact h _ _ hm lo_r
    -- within: in is within the closure and has all of s_gi m
    refine am_up (P := fun m => ∀ g, (∀ x, x < 32 → am_bt g x = true → s_gi (V 120) n w n x = true) → (∀ x, x < 32 → s_gi (V 120) n w m x = true → am_bt g x = true) → am_Run am_X0 (am_meth d) 233 R 20 [some (.ref 113), none, some (.int g), some (.int (nI m)), none, none] [] (am_mk I L, 0, 0)) (n := n) (fun g u1 u2 => ?_) (fun m hm2 ih g u1 u2 => ?_) _ (fun x hx q => ?_) (fun x hx q => ?_)
    · refine r_M_group_20 ⟨fun c => absurd (en ▸ c) (nI_nlt (Nat.le_refl _) (by omega)), fun _ => fin g (fun x hx => ?_)⟩
      rw [cl20 x]
      rcases q : s_gi (V 120) n w n x with _ | _
      · exact Bool.eq_false_iff.mpr (fun z => by rw [u1 x hx z] at q; exact Bool.noConfusion q)
      · exact u2 x hx q
    · refine r_M_group_20 ⟨fun _ => ?_, fun c => absurd (by rw [en]; exact nI_lt hm2 (by omega)) c⟩
      refine am_up (P := fun a => ∀ g2, (∀ x, x < 32 → am_bt g2 x = true → s_gi (V 120) n w n x = true) → (∀ x, x < 32 → am_bt g x = true → am_bt g2 x = true) → (∀ y x, y < a → x < n → am_bt g y = true → s_alf (V 120) y x = true → am_bt g2 x = true) → am_Run am_X0 (am_meth d) 233 R 31 [some (.ref 113), none, some (.int g2), some (.int (nI m)), some (.int (nI a)), none] [] (am_mk I L, 0, 0)) (n := n) (fun g2 v1 v2 v3 => ?_) (fun a ha ih2 g2 v1 v2 v3 => ?_) g u1 (fun _ _ q => q) (fun y x hy => absurd hy (Nat.not_lt_zero y))
      · refine r_M_group_31 ⟨fun c => absurd (en ▸ c) (nI_nlt (Nat.le_refl _) (by omega)), fun _ => ih g2 v1 (fun x hx q => ?_)⟩
        rw [s_gi] at q
        rcases Bool.or_eq_true_iff.mp q with q | q
        · exact v2 x hx (u2 x hx q)
        · obtain ⟨a1, a2⟩ := Bool.and_eq_true_iff.mp q
          obtain ⟨y, hy, e⟩ := s_any_ex a2
          obtain ⟨b1, b2⟩ := Bool.and_eq_true_iff.mp e
          exact v3 y x hy (decide_eq_true_iff.mp a1) (u2 y (by omega) b1) b2
      · refine r_M_group_31 ⟨fun _ => ⟨fun c => ?_, fun c => ?_⟩, fun c => absurd (by rw [en]; exact nI_lt ha (by omega)) c⟩
        · rw [bt_f (by omega)] at c
          refine ih2 g2 v1 v2 (fun y x hy hx q1 q2 => ?_)
          by_cases e : y = a
          · subst e
            have := v2 y (by omega) q1
            rw [c] at this; exact Bool.noConfusion this
          · exact v3 y x (by omega) hx q1 q2
        · rw [bt_f (by omega)] at c
          have ca : am_bt g2 a = true := am_bnf c
          refine am_up (P := fun b => ∀ g3, (∀ x, x < 32 → am_bt g3 x = true → s_gi (V 120) n w n x = true) → (∀ x, x < 32 → am_bt g2 x = true → am_bt g3 x = true) → (∀ x, x < b → s_alf (V 120) a x = true → am_bt g3 x = true) → am_Run am_X0 (am_meth d) 233 R 55 [some (.ref 113), none, some (.int g3), some (.int (nI m)), some (.int (nI a)), some (.int (nI b))] [] (am_mk I L, 0, 0)) (n := n) (fun g3 w1 w2 w3 => ?_) (fun b hb ih3 g3 w1 w2 w3 => ?_) g2 v1 (fun _ _ q => q) (fun x hx => absurd hx (Nat.not_lt_zero x))
          · refine r_M_group_55 (by omega) ⟨fun c => absurd (en ▸ c) (nI_nlt (Nat.le_refl _) (by omega)), fun _ => ih2 g3 w1 (fun x hx q => w2 x hx (v2 x hx q)) (fun y x hy hx q1 q2 => ?_)⟩
            by_cases e : y = a
            · subst e; exact w3 x hx q2
            · exact w2 x (by omega) (v3 y x (by omega) hx q1 q2)
          · refine r_M_group_55 (by omega) ⟨fun _ => ⟨by omega, by omega, fun c2 => ?_, fun c2 => ?_⟩, fun c => absurd (by rw [en]; exact nI_lt hb (by omega)) c⟩
            · rw [e120] at c2
              refine ih3 _ (fun x hx q => ?_) (fun x hx q => ?_) (fun x hx q => ?_)
              · rw [bt_or (by omega) hx] at q
                rcases Bool.or_eq_true_iff.mp q with q | q
                · exact w1 x hx q
                · have := decide_eq_true_iff.mp q
                  subst this
                  exact gi_n hi a x ha hb (v1 a (by omega) ca) c2
              · rw [bt_or (by omega) hx, w2 x hx q, Bool.true_or]
              · rw [bt_or (by omega) (by omega)]
                by_cases e : x = b
                · rw [decide_eq_true e, Bool.or_true]
                · rw [w3 x (by omega) q, Bool.true_or]
            · rw [e120] at c2
              refine ih3 g3 w1 w2 (fun x hx q => ?_)
              by_cases e : x = b
              · subst e; exact absurd q c2
              · exact w3 x (by omega) q
    · rw [bt_sh (by omega) hx] at q
      have := decide_eq_true_iff.mp q
      subst this
      exact gi_w n
    · rw [s_gi] at q
      rw [bt_sh (by omega) hx]; exact q
  · (rw [if_neg c] at h; exact h _ _ (RM_no hm) (lo_up (by decide) lo_r))
theorem I_group {k : Int32} (hv : Inv V) : Inv (o_group V k).2 := by
  unfold o_group
  split <;> exact hv
end GR
