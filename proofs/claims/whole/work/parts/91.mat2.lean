/-! pairs: the reference prepares -/
section MP
variable {d : Nat} {I V : am_V} {L : Nat → Nat → Int64} {R : am_R}
def w_pf (I' I : am_V) : Prop := ∀ c, (c < 138 ∨ 145 < c) → c ≠ 153 → c ≠ 154 → I' c = I c
theorem pf_lo {I' : am_V} (h : w_pf I' I) : am_lo I' I := fun c hc => h c (by omega) (by omega) (by omega)
theorem pf_RM {I' : am_V} (h : w_pf I' I) (hm : RM I V) : RM I' V := by
  refine ⟨fun c hc => ?_, fun j hj => ?_⟩
  · have hc2 := hc
    simp only [am_pc, decide_eq_true_eq] at hc2
    rw [h c (by omega) (by omega) (by omega)]; exact hm.1 c hc
  · rw [h 113 (by omega) (by decide) (by decide)]; exact hm.2 j hj
theorem nI_k6 (k p : Nat) : nI k * 6 + nI p = nI (6 * k + p) := by
  rw [show (6 : Int32) = nI 6 from rfl, show nI k * nI 6 = nI (k * 6) from (Int32.ofNat_mul k 6).symm, nI_add, Nat.mul_comm]
theorem ok_M_prepare (hd : 9 ≤ d) (hm : RM I V) (hv : Inv V) (hx : w_Tx V) (ha : s_alo V = true) (h6 : s_rl V ≤ 6) (h : ∀ I' L', w_pv V I' → w_pf I' I → R none (am_mk I' L', 0, 0)) : am_meth d 217 [.ref 113] (am_mk I L, 0, 0) R := by
  obtain ⟨d, rfl⟩ : ∃ e, d = e + 1 := ⟨d - 1, by omega⟩
  have hr := rl_12 hv
  have hk := hv.1.2.1
  have hk2 := hk.2
  refine ar_in rfl rfl rfl (r_M_prepare_0 ?_)
  refine am_up (P := fun k => ∀ (I' : am_V) (L' : Nat → Nat → Int64), w_pf I' I → (∀ x, x < k → ∀ p, p < s_rl V → am_bt (I' 153 x) p = s_M V x p ∧ I' 154 (6 * x + p) = s_ht V x (s_rw V p)) → am_Run am_X0 (am_meth d) 217 R 2 [some (.ref 113), some (.int (nI k)), none] [] (am_mk I' L', 0, 0)) (n := am_n V 113 4) (fun I' L' f1 f2 => ?_) (fun k hk4 ih I' L' f1 f2 => ?_) I L (fun _ _ _ _ => rfl) (fun x hx => absurd hx (Nat.not_lt_zero x))
  · have m1 := pf_RM f1 hm
    have en : I' 113 4 = nI (am_n V 113 4) := by rw [m1.2 4 rfl]; exact hk.1
    exact r_M_prepare_2 ⟨fun c => absurd (en ▸ c) (nI_nlt (Nat.le_refl _) (by omega)), fun _ => h I' L' ⟨m1, fun k hk p hp => (f2 k hk p hp).1, fun k hk p hp => (f2 k hk p hp).2⟩ f1⟩
  · have m1 := pf_RM f1 hm
    have en : I' 113 4 = nI (am_n V 113 4) := by rw [m1.2 4 rfl]; exact hk.1
    have k20 : k < 20 := by omega
    refine r_M_prepare_2 ⟨fun _ => ⟨k20, ?_⟩, fun c => absurd (by rw [en]; exact nI_lt hk4 (by omega)) c⟩
    rintro _ rfl
    refine am_up (P := fun p => ∀ (I' : am_V) (L' : Nat → Nat → Int64), w_pf I' I → (∀ x, x < k → ∀ p, p < s_rl V → am_bt (I' 153 x) p = s_M V x p ∧ I' 154 (6 * x + p) = s_ht V x (s_rw V p)) → (∀ y, y < 32 → am_bt (I' 153 k) y = (decide (y < p) && s_M V k y)) → (∀ y, y < p → I' 154 (6 * k + y) = s_ht V k (s_rw V y)) → am_Run am_X0 (am_meth d) 217 R 19 [some (.ref 113), some (.int (nI k)), some (.int (nI p))] [] (am_mk I' L', 0, 0)) (n := s_rl V) (fun I' L' f1 f2 f3 f4 => ?_) (fun p hp ih2 I' L' f1 f2 f3 f4 => ?_) _ L' (fun c h1 h2 h3 => by rw [am_vat, if_neg h2]; exact f1 c h1 h2 h3) (fun x hx p hp => ?_) (fun y hy => ?_) (fun y hy => absurd hy (Nat.not_lt_zero y))
    · have en : I' 113 39 = nI (s_rl V) := by rw [(pf_RM f1 hm).2 39 rfl]; exact hr.1
      refine r_M_prepare_19 ⟨fun c => absurd (en ▸ c) (nI_nlt (Nat.le_refl _) (by omega)), fun _ => ih I' L' f1 (fun x hx p hp => ?_)⟩
      by_cases e : x = k
      · subst e
        refine ⟨?_, f4 p hp⟩
        rw [f3 p (by omega), decide_eq_true hp]; rfl
      · exact f2 x (by omega) p hp
    · have m2 := pf_RM f1 hm
      have en : I' 113 39 = nI (s_rl V) := by rw [m2.2 39 rfl]; exact hr.1
      have rs := row_s hv ha hp
      have e146 : I' 146 p = nI (s_rw V p) := by rw [m2.1 146 rfl]; exact rs.1
      refine r_M_prepare_19 ⟨fun _ => ⟨by omega, ?_⟩, fun c => absurd (by rw [en]; exact nI_lt hp (by omega)) c⟩
      rw [e146]
      refine ok_M_whyNot (by omega) m2 hv hx k20 rs.2.1 (fun I3 L3 m3 l3 => ⟨_, _, _, rfl, rfl, fun c => ⟨k20, ?_⟩, fun c => ?_⟩)
      · rintro _ rfl
        have m4 : RM (va_up I3 153 (upd (I3 153) k (I3 153 k ||| (1 <<< (nI p &&& 31))))) V := RM_s (by decide) (by decide) m3
        rw [show (va_up I3 153 (upd (I3 153) k (I3 153 k ||| (1 <<< (nI p &&& 31))))) 146 p = nI (s_rw V p) from by show I3 146 p = _; rw [m3.1 146 rfl]; exact rs.1]
        refine ok_M_hoursTo (by omega) m4 hv k20 rs.2.2 ⟨_, _, _, rfl, rfl, 6 * k + p, by omega, nI_k6 k p, ?_⟩
        rintro _ rfl
        have l153 : I3 153 = I' 153 := l3 153 (by omega)
        have l154 : I3 154 = I' 154 := l3 154 (by omega)
        refine ih2 _ L3 (fun c h1 h2 h3 => ?_) (fun x hx y hy => ?_) (fun y hy => ?_) (fun y hy => ?_)
        · rw [am_vat, if_neg h3, am_vat, if_neg h2, l3 c h1]; exact f1 c h1 h2 h3
        · show am_bt (upd (I3 153) k (I3 153 k ||| (1 <<< (nI p &&& 31))) x) y = _ ∧ upd (I3 154) (6 * k + p) (s_ht V k (s_rw V p)) (6 * x + y) = _
          rw [upd_ne (by omega), upd_ne (by omega), l153, l154]; exact f2 x hx y hy
        · show am_bt (upd (I3 153) k (I3 153 k ||| (1 <<< (nI p &&& 31))) k) y = _
          rw [upd_at, bt_or (by omega) hy, l153, f3 y hy]
          by_cases e : y = p
          · subst e
            have sm : s_M V k y = true := by unfold s_M; rw [decide_eq_true hk4, decide_eq_true c]; rfl
            rw [decide_eq_true rfl, Bool.or_true, sm, decide_eq_true (Nat.lt_succ_self y)]; rfl
          · rw [decide_eq_false e, Bool.or_false]
            congr 2
            apply propext
            omega
        · show upd (I3 154) (6 * k + p) (s_ht V k (s_rw V p)) (6 * k + y) = _
          by_cases e : y = p
          · subst e; rw [upd_at]
          · rw [upd_ne (by omega), l154]; exact f4 y (by omega)
      · rw [show I3 146 p = nI (s_rw V p) from by rw [m3.1 146 rfl]; exact rs.1]
        refine ok_M_hoursTo (by omega) m3 hv k20 rs.2.2 ⟨_, _, _, rfl, rfl, 6 * k + p, by omega, nI_k6 k p, ?_⟩
        rintro _ rfl
        have l153 : I3 153 = I' 153 := l3 153 (by omega)
        have l154 : I3 154 = I' 154 := l3 154 (by omega)
        refine ih2 _ L3 (fun c h1 h2 h3 => ?_) (fun x hx y hy => ?_) (fun y hy => ?_) (fun y hy => ?_)
        · rw [am_vat, if_neg h3, l3 c h1]; exact f1 c h1 h2 h3
        · show am_bt (I3 153 x) y = _ ∧ upd (I3 154) (6 * k + p) (s_ht V k (s_rw V p)) (6 * x + y) = _
          rw [upd_ne (by omega), l153, l154]; exact f2 x hx y hy
        · show am_bt (I3 153 k) y = _
          rw [l153, f3 y hy]
          by_cases e : y = p
          · subst e
            have sm : s_M V k y = false := by unfold s_M; rw [decide_eq_false c, Bool.and_false]
            rw [sm, Bool.and_false, Bool.and_false]
          · congr 2
            apply propext
            omega
        · show upd (I3 154) (6 * k + p) (s_ht V k (s_rw V p)) (6 * k + y) = _
          by_cases e : y = p
          · subst e; rw [upd_at]
          · rw [upd_ne (by omega), l154]; exact f4 y (by omega)
    · show am_bt (upd (I' 153) k 0 x) p = _ ∧ I' 154 _ = _
      rw [upd_ne (by omega)]; exact f2 x hx p hp
    · show am_bt (upd (I' 153) k 0 k) y = _
      rw [upd_at, bt_0]; rfl
end MP
