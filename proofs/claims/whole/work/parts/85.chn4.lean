/-! chains: the reference's call -/
def o_chain (V : am_V) (k w : Int32) : Int32 × am_V := if (0 ≤ k ∧ k < V 113 4) ∧ s_alo V = true then (if w = 0 ∨ w = 1 then (if s_opn V = true then (if V 113 39 ≤ 10 then (if w = 0 then nI (s_D V (s_bst V k.toNatClampNeg (2 ^ s_rl V - 1))) else nI (s_bst V k.toNatClampNeg (2 ^ s_rl V - 1)), V) else o_no V 6 (-6)) else o_no V 3 (-3)) else o_no V 2 (-2)) else o_no V 1 (-1)
theorem I_chain {V : am_V} {k w : Int32} (hv : Inv V) : Inv (o_chain V k w).2 := by
  unfold o_chain
  split
  · split
    · split
      · split
        · exact hv
        · exact hv
      · exact hv
    · exact hv
  · exact hv
section CR2
variable {d : Nat} {I V : am_V} {L : Nat → Nat → Int64} {R : am_R}
theorem ln_e (hv : Inv V) (ha : s_alo V = true) {j : Nat} (hj : j < s_rl V) : V 127 (s_rw V j) - V 126 (s_rw V j) + 1 = nI (s_ln V j) := by
  have rs := row_s hv ha hj
  have v1 := hv.2.2.2.1.1 _ rs.2.2
  have v2 := (hv.2.2.2.1.2 _ rs.2.1).1.1
  rw [v1.2.1.1, v1.2.2.1.1, pk_sub v2, nI_1]
  unfold s_ln
  rw [show am_n V 127 (s_rw V j) - am_n V 126 (s_rw V j) + 1 = am_n V 127 (s_rw V j) + 1 - am_n V 126 (s_rw V j) from by omega]
theorem lt_C {s b : Nat} : s_so (nI s) 10 < s_so (nI b) 10 ↔ s_C s < s_C b := Int32.lt_iff_toInt_lt
theorem bst_s {k t : Nat} : s_bst V k (t + 1) = if s_D V (t + 1) < s_D V (s_bst V k t) ∨ (s_D V (t + 1) = s_D V (s_bst V k t) ∧ s_C (s_bst V k t) ≤ s_C (t + 1)) ∨ s_ft k (s_rw V) (s_lst V) V (t + 1) = false then s_bst V k t else t + 1 := rfl
theorem M_chain_loop {k : Nat} {w : Int32} (hd : 9 ≤ d) (hm : RM I V) (hv : Inv V) (hx : w_Tx V) (ha : s_alo V = true) (ho : s_opn V = true) (hk : k < 20) (h10 : s_rl V ≤ 10) (hA : w_ar (I 148) nI (s_lst V)) (h : ∀ I' L', RM I' V → am_lo I' I → R (some (.int (if w = 0 then nI (s_D V (s_bst V k (2 ^ s_rl V - 1))) else nI (s_bst V k (2 ^ s_rl V - 1))))) (am_mk I' L', 0, 0)) : am_Run am_X0 (am_meth d) 207 R 79 [some (.ref 113), some (.int (nI k)), some (.int w), some (.int 0), some (.int 0), some (.int 1), none, none] [] (am_mk I L, 0, 0) := by
  have hr := rl_12 hv
  have p1 : 0 < 2 ^ s_rl V := Nat.pow_pos (by decide)
  have p2 : 2 ^ s_rl V ≤ 2 ^ 10 := Nat.pow_le_pow_right (by decide) h10
  have p3 : (2 : Nat) ^ 10 = 1024 := rfl
  have e0 : nI (s_D V (s_bst V k 0)) = 0 := by
    show nI (s_D V 0) = 0
    rw [D_0]; rfl
  have st := am_up (P := fun t => ∀ I' L', RM I' V → am_lo I' I → I' 148 = I 148 → am_Run am_X0 (am_meth d) 207 R 79 [some (.ref 113), some (.int (nI k)), some (.int w), some (.int (nI (s_bst V k t))), some (.int (nI (s_D V (s_bst V k t)))), some (.int (nI (t + 1))), none, none] [] (am_mk I' L', 0, 0)) (n := 2 ^ s_rl V - 1) (fun I' L' f1 f2 f3 => ?_) (fun t ht ih I' L' f1 f2 f3 => ?_)
  · have := st I L hm lo_r rfl
    rw [e0] at this
    exact this
  · have en : I' 113 39 = nI (s_rl V) := by rw [f1.2 39 rfl]; exact hr.1
    refine r_M_chain_79 ⟨fun c => ?_, fun _ => ⟨fun c => ?_, fun c => ?_⟩⟩
    · rw [en, sh_2 (by omega)] at c
      exact absurd c (nI_nlt (by omega) (by omega))
    · have h := h I' L' f1 f2
      rw [if_pos c] at h; exact h
    · have h := h I' L' f1 f2
      rw [if_neg c] at h; exact h
  · have en : I' 113 39 = nI (s_rl V) := by rw [f1.2 39 rfl]; exact hr.1
    have bb := bst_le (V := V) (k := k) t
    have d1 := D_le hv ha (t + 1)
    have d2 := D_le hv ha (s_bst V k t)
    refine r_M_chain_79 ⟨fun _ => ?_, fun c => absurd (by rw [en, sh_2 (by omega)]; exact nI_lt (by omega) (by omega)) c⟩
    refine am_up (P := fun j => am_Run am_X0 (am_meth d) 207 R 96 [some (.ref 113), some (.int (nI k)), some (.int w), some (.int (nI (s_bst V k t))), some (.int (nI (s_D V (s_bst V k t)))), some (.int (nI (t + 1))), some (.int (nI (n_sum (fun i => (t + 1).testBit i) (s_ln V) j))), some (.int (nI j))] [] (am_mk I' L', 0, 0)) (n := s_rl V) ?_ (fun j hj ih2 => ?_)
    · refine r_M_chain_96 ⟨fun c => absurd (en ▸ c) (nI_nlt (Nat.le_refl _) (by omega)), fun _ => ?_⟩
      have eD : n_sum (fun i => (t + 1).testBit i) (s_ln V) (s_rl V) = s_D V (t + 1) := rfl
      rw [eD]
      have keep : s_bst V k (t + 1) = s_bst V k t → ∀ I2 L2, RM I2 V → am_lo I2 I → I2 148 = I 148 → am_Run am_X0 (am_meth d) 207 R 79 [some (.ref 113), some (.int (nI k)), some (.int w), some (.int (nI (s_bst V k t))), some (.int (nI (s_D V (s_bst V k t)))), some (.int (nI (t + 1 + 1))), none, none] [] (am_mk I2 L2, 0, 0) := fun e I2 L2 a b c => by
        have := ih I2 L2 a b c
        rw [e] at this; exact this
      have swap : s_bst V k (t + 1) = t + 1 → ∀ I2 L2, RM I2 V → am_lo I2 I → I2 148 = I 148 → am_Run am_X0 (am_meth d) 207 R 79 [some (.ref 113), some (.int (nI k)), some (.int w), some (.int (nI (t + 1))), some (.int (nI (s_D V (t + 1)))), some (.int (nI (t + 1 + 1))), none, none] [] (am_mk I2 L2, 0, 0) := fun e I2 L2 a b c => by
        have := ih I2 L2 a b c
        rw [e] at this; exact this
      have bs := bst_s (V := V) (k := k) (t := t)
      have last : ¬ s_D V (t + 1) < s_D V (s_bst V k t) → ¬ (s_D V (t + 1) = s_D V (s_bst V k t) ∧ s_C (s_bst V k t) ≤ s_C (t + 1)) → am_meth d 212 [.ref 113, .int (nI k), .int (nI (t + 1))] (am_mk I' L', 0, 0) (am_ri (fun z I2 L2 => (z = 0 → am_Run am_X0 (am_meth d) 207 R 79 [some (.ref 113), some (.int (nI k)), some (.int w), some (.int (nI (s_bst V k t))), some (.int (nI (s_D V (s_bst V k t)))), some (.int (nI (t + 1 + 1))), none, none] [] (am_mk I2 L2, 0, 0)) ∧ (¬ z = 0 → am_Run am_X0 (am_meth d) 207 R 79 [some (.ref 113), some (.int (nI k)), some (.int w), some (.int (nI (t + 1))), some (.int (nI (s_D V (t + 1)))), some (.int (nI (t + 1 + 1))), none, none] [] (am_mk I2 L2, 0, 0)))) := by
        intro c1 c2
        refine ok_M_couldTake hd f1 hv hx ha ho hk h10 (by rw [f3]; exact hA) (fun I2 L2 a b c => ⟨_, _, _, rfl, rfl, ?_⟩)
        have b' : am_lo I2 I := fun x hx => (b x hx).trans (f2 x hx)
        have c' : I2 148 = I 148 := c.trans f3
        rcases q : s_ft k (s_rw V) (s_lst V) V (t + 1) with _ | _
        · refine ⟨fun _ => keep ?_ I2 L2 a b' c', fun z => absurd (if_neg (by decide)) z⟩
          rw [bs, if_pos (Or.inr (Or.inr q))]
        · refine ⟨fun z => absurd z (by rw [if_pos rfl]; decide), fun _ => swap ?_ I2 L2 a b' c'⟩
          rw [bs, if_neg (fun z => by
            rcases z with z | z | z
            · exact c1 z
            · exact c2 z
            · rw [q] at z; exact Bool.noConfusion z)]
      rw [nI_ltI (by omega) (by omega), nI_eq (by omega) (by omega)]
      refine ⟨fun c => keep ?_ I' L' f1 f2 f3, fun c => ⟨fun c2 => ?_, fun c2 => last c (fun z => c2 z.1)⟩⟩
      · rw [bs, if_pos (Or.inl c)]
      · refine ok_M_sorts10 (by omega) ⟨_, _, _, rfl, rfl, ok_M_sorts10 (by omega) ⟨_, _, _, rfl, rfl, ?_⟩⟩
        dsimp only
        rw [lt_C]
        refine ⟨fun c3 => last c (fun z => by omega), fun c3 => keep ?_ I' L' f1 f2 f3⟩
        rw [bs, if_pos (Or.inr (Or.inl ⟨c2, by omega⟩))]
    · have rs := row_s hv ha hj
      have e1 : n_sum (fun i => (t + 1).testBit i) (s_ln V) (j + 1) = if (t + 1).testBit j = true then n_sum (fun i => (t + 1).testBit i) (s_ln V) j + s_ln V j else n_sum (fun i => (t + 1).testBit i) (s_ln V) j := rfl
      rw [e1] at ih2
      refine r_M_chain_96 ⟨fun _ => ?_, fun c => absurd (by rw [en]; exact nI_lt hj (by omega)) c⟩
      rw [bt_t (by omega), bt_nI (by omega)]
      refine ⟨fun c => ⟨by omega, s_rw V j, rs.2.2, by rw [f1.1 146 rfl]; exact rs.1, ?_⟩, fun c => ?_⟩
      · rw [if_pos c] at ih2
        rw [f1.1 127 rfl, f1.1 126 rfl, ln_e hv ha hj, nI_add]
        exact ih2
      · rw [if_neg c] at ih2
        exact ih2
theorem M_chain {k w : Int32} (hd : 10 ≤ d) (hx : w_Tx V) (hm : RM I V) (hv : Inv V) (h : ∀ I' L', RM I' (o_chain V k w).2 → am_lo I' I → R (some (.int (o_chain V k w).1)) (am_mk I' L', 0, 0)) : am_meth d 207 [.ref 113, .int k, .int w] (am_mk I L, 0, 0) R := by
  obtain ⟨d, rfl⟩ : ∃ e, d = e + 1 := ⟨d - 1, by omega⟩
  have hr := rl_12 hv
  refine ar_in rfl rfl rfl (r_M_chain_0 (by omega) ?_)
  rw [hm.2 4 rfl]
  unfold o_chain at h
  refine ⟨fun c => ?_, fun c => ?_⟩
  · obtain ⟨i, i1, rfl, i2⟩ := ix_k hv c
    rw [nI_clamp (by omega)] at h
    refine ok_M_all (by omega) hm hv (fun a => ⟨_, _, _, rfl, rfl, fun z => absurd z (by decide), fun _ => ?_⟩) (fun a => ⟨_, _, _, rfl, rfl, fun _ => ?_, fun z => absurd rfl z⟩)
    · rw [if_pos ⟨c, a⟩] at h
      refine ⟨fun c1 => ?_, fun c1 => ⟨fun c2 => ?_, fun c2 => ?_⟩⟩
      · rw [if_neg (fun z => by rcases z with z | z <;> rw [z] at c1 <;> exact absurd c1 (by decide))] at h; (exact h _ _ (RM_no hm) (lo_up (by decide) lo_r))
      · have w01 : w = 0 ∨ w = 1 := by
          obtain ⟨j, hj, rfl⟩ := nI_of (x := w) c1
          rw [show (1 : Int32) = nI 1 from rfl, nI_leI hj (by decide)] at c2
          rcases (show j = 0 ∨ j = 1 by omega) with e | e
          · left; rw [e]; rfl
          · right; rw [e]; rfl
        rw [if_pos w01] at h
        refine ok_M_open1 (by omega) hm hv a (fun b => ⟨_, _, _, rfl, rfl, fun z => absurd z (by decide), fun _ => ?_⟩) (fun b => ⟨_, _, _, rfl, rfl, fun _ => ?_, fun z => absurd rfl z⟩)
        · rw [if_pos b] at h
          rw [hm.2 39 rfl]
          refine ⟨fun c3 => ?_, fun c3 => ?_⟩
          · rw [if_pos c3] at h
            have h10 : s_rl V ≤ 10 := by
              rw [hr.1, show (10 : Int32) = nI 10 from rfl, nI_leI (by omega) (by decide)] at c3
              exact c3
            refine ok_M_sortRow (by omega) hm hv a h10 (fun I1 g1 g2 => ⟨_, _, rfl, rfl, ?_⟩)
            have m1 : RM I1 V := by
              refine ⟨fun x hx => ?_, fun j hj => ?_⟩
              · rw [g1 x (by simp only [am_pc, decide_eq_true_eq] at hx; omega)]; exact hm.1 x hx
              · rw [g1 113 (by decide)]; exact hm.2 j hj
            have l1 : am_lo I1 I := fun x hx => g1 x (by omega)
            exact M_chain_loop (by omega) m1 hv hx a b i1 h10 g2 (fun I2 L2 a2 b2 => h I2 L2 a2 (fun x hx => (b2 x hx).trans (l1 x hx)))
          · rw [if_neg c3] at h; (exact h _ _ (RM_no hm) (lo_up (by decide) lo_r))
        · rw [if_neg (c := s_opn V = true) (by rw [b]; decide)] at h; (exact h _ _ (RM_no hm) (lo_up (by decide) lo_r))
      · rw [if_neg (fun z => by rcases z with z | z <;> rw [z] at c2 <;> exact absurd (by decide) c2)] at h; (exact h _ _ (RM_no hm) (lo_up (by decide) lo_r))
    · rw [if_neg (fun z => by rw [a] at z; exact Bool.noConfusion z.2)] at h; (exact h _ _ (RM_no hm) (lo_up (by decide) lo_r))
  · rw [if_neg (fun z => c z.1)] at h; (exact h _ _ (RM_no hm) (lo_up (by decide) lo_r))
end CR2
