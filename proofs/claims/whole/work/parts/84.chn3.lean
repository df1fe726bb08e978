/-! chains: the reference -/
def s_lst (V : am_V) : List Nat := s_srt (fun i => am_n V 126 (s_rw V i)) (s_rl V)
def w_of (V' V : am_V) : Prop := (∀ c, c ≠ 128 → c ≠ 129 → V' c = V c) ∧ ∀ x, (∀ i, i < s_rl V → x ≠ s_rw V i) → V' 128 x = V 128 x ∧ V' 129 x = V 129 x
section CR
variable {d : Nat} {I V : am_V} {L : Nat → Nat → Int64} {R : am_R}
theorem ok_M_sorts10 {x : Int32} (hd : 1 ≤ d) (h : R (some (.int (s_so x 10))) (am_mk I L, 0, 0)) : am_meth d 211 [.ref 113, .int x] (am_mk I L, 0, 0) R := by
  obtain ⟨d, rfl⟩ : ∃ e, d = e + 1 := ⟨d - 1, by omega⟩
  refine ar_in rfl rfl rfl (r_M_sorts10_0 ?_)
  refine am_up (P := fun j => am_Run am_X0 (am_meth d) 211 R 4 [some (.ref 113), some (.int x), some (.int (s_so x j)), some (.int (nI j))] [] (am_mk I L, 0, 0)) (n := 10) ?_ (fun j hj ih => ?_)
  · exact r_M_sorts10_4 ⟨fun c => absurd c (by decide), fun _ => h⟩
  · exact r_M_sorts10_4 ⟨fun _ => ih, fun c => absurd (nI_lt (b := 10) hj (by decide)) c⟩
theorem ok_M_sortRow (hd : 1 ≤ d) (hm : RM I V) (hv : Inv V) (ha : s_alo V = true) (h10 : s_rl V ≤ 10) (h : ∀ I', (∀ c, c ≠ 148 → I' c = I c) → w_ar (I' 148) nI (s_lst V) → R none (am_mk I' L, 0, 0)) : am_meth d 210 [.ref 113] (am_mk I L, 0, 0) R := by
  obtain ⟨d, rfl⟩ : ∃ e, d = e + 1 := ⟨d - 1, by omega⟩
  have hr := rl_12 hv
  refine ar_in rfl rfl rfl (r_M_sortRow_0 ?_)
  refine am_up (P := fun j => ∀ I', (∀ c, c ≠ 148 → I' c = I c) → w_ar (I' 148) nI (s_srt (fun i => am_n V 126 (s_rw V i)) j) → am_Run am_X0 (am_meth d) 210 R 2 [some (.ref 113), some (.int (nI j)), none] [] (am_mk I' L, 0, 0)) (n := s_rl V) (fun I' f1 f2 => ?_) (fun j hj ih I' f1 f2 => ?_) I (fun _ _ => rfl) (fun j y e => by cases e)
  · have en : I' 113 39 = nI (s_rl V) := by rw [f1 113 (by decide), hm.2 39 rfl]; exact hr.1
    exact r_M_sortRow_2 ⟨fun c => absurd (en ▸ c) (nI_nlt (Nat.le_refl _) (by omega)), fun _ => h I' f1 f2⟩
  · have en : I' 113 39 = nI (s_rl V) := by rw [f1 113 (by decide), hm.2 39 rfl]; exact hr.1
    refine r_M_sortRow_2 ⟨fun _ => ?_, fun c => absurd (by rw [en]; exact nI_lt hj (by omega)) c⟩
    have sl := srt_len (f := fun i => am_n V 126 (s_rw V i)) j
    have fin : ∀ a I', (∀ c, c ≠ 148 → I' c = I c) → a ≤ j → w_sh (I' 148) nI (s_srt (fun i => am_n V 126 (s_rw V i)) j) a → (∀ i y, a ≤ i → (s_srt (fun i => am_n V 126 (s_rw V i)) j)[i]? = some y → am_n V 126 (s_rw V j) < am_n V 126 (s_rw V y)) → (∀ i y, a = i + 1 → (s_srt (fun i => am_n V 126 (s_rw V i)) j)[i]? = some y → ¬ am_n V 126 (s_rw V j) < am_n V 126 (s_rw V y)) → am_Run am_X0 (am_meth d) 210 R 2 [some (.ref 113), some (.int (nI (j + 1))), none] [] (am_mk (va_up I' 148 (upd (I' 148) a (nI j))) L, 0, 0) := by
      intro a I' g1 g2 g3 g4 g5
      refine ih _ (fun c hc => by rw [am_vat, if_neg hc]; exact g1 c hc) ?_
      show w_ar (upd (I' 148) a (nI j)) nI (s_ins (fun i => am_n V 126 (s_rw V i)) j (s_srt (fun i => am_n V 126 (s_rw V i)) j))
      rw [ins_at (srt_sd j) (by omega) g4 g5]
      exact sh_e g3 (by omega)
    have inner : ∀ a I', (∀ c, c ≠ 148 → I' c = I c) → a ≤ j → w_sh (I' 148) nI (s_srt (fun i => am_n V 126 (s_rw V i)) j) a → (∀ i y, a ≤ i → (s_srt (fun i => am_n V 126 (s_rw V i)) j)[i]? = some y → am_n V 126 (s_rw V j) < am_n V 126 (s_rw V y)) → am_Run am_X0 (am_meth d) 210 R 12 [some (.ref 113), some (.int (nI j)), some (.int (nI a))] [] (am_mk I' L, 0, 0) := by
      intro a
      induction a with
      | zero =>
        intro I' g1 g2 g3 g4
        refine r_M_sortRow_12 ⟨fun _ => ⟨by omega, ?_⟩, fun c => absurd (by decide) c⟩
        rintro _ rfl
        exact fin 0 I' g1 (Nat.zero_le _) g3 g4 (fun i y e => by omega)
      | succ a iha =>
        intro I' g1 g2 g3 g4
        have hl : a < (s_srt (fun i => am_n V 126 (s_rw V i)) j).length := by omega
        have ey : (s_srt (fun i => am_n V 126 (s_rw V i)) j)[a]? = some (s_srt (fun i => am_n V 126 (s_rw V i)) j)[a] := List.getElem?_eq_getElem hl
        generalize (s_srt (fun i => am_n V 126 (s_rw V i)) j)[a] = y at ey
        have hy : y < j := srt_mem.mp (List.mem_of_getElem? ey)
        have e148 : I' 148 a = nI y := g3.1 a y (by omega) ey
        have e146 : I' 146 = V 146 := by rw [g1 146 (by decide), hm.1 146 rfl]
        have e126 : I' 126 = V 126 := by rw [g1 126 (by decide), hm.1 126 rfl]
        have ry := row_s hv ha (show y < s_rl V by omega)
        have rj := row_s hv ha hj
        have vy := (hv.2.2.2.1.1 _ ry.2.2).2.1
        have vj := (hv.2.2.2.1.1 _ rj.2.2).2.1
        have vy2 := vy.2
        have vj2 := vj.2
        refine r_M_sortRow_12 ⟨fun c => absurd c (nI_nle (by omega) (by omega)), fun _ => ⟨a, by omega, nI_pred a, y, by omega, e148, s_rw V y, ry.2.2, by rw [e146]; exact ry.1, by omega, s_rw V j, rj.2.2, by rw [e146]; exact rj.1, ?_⟩⟩
        rw [e126, vy.1, vj.1, nI_leI (by omega) (by omega)]
        refine ⟨fun c => ⟨by omega, ?_⟩, fun c => ⟨by omega, ?_⟩⟩
        · rintro _ rfl
          refine fin (a + 1) I' g1 g2 g3 g4 (fun i z e ez => ?_)
          have : i = a := by omega
          subst this
          rw [ey] at ez
          cases ez
          omega
        · rintro _ rfl
          rw [nI_m1]
          refine iha _ (fun c hc => by rw [am_vat, if_neg hc]; exact g1 c hc) (by omega) (sh_s g3) (fun i z hi ez => ?_)
          by_cases q : i = a
          · subst q
            rw [ey] at ez
            cases ez
            omega
          · exact g4 i z (by omega) ez
    have s0 := sh_0 f2
    rw [sl] at s0
    exact inner j I' f1 (Nat.le_refl _) s0 (fun i y hi e => by rw [List.getElem?_eq_none (by omega)] at e; cases e)
theorem of_r : w_of V V := ⟨fun _ _ _ => rfl, fun _ _ => ⟨rfl, rfl⟩⟩
theorem of_tk {V' : am_V} {k i : Nat} (h : w_of V' V) (hi : i < s_rl V) : w_of (w_tk V' k (s_rw V i)) V := by
  refine ⟨fun c h1 h2 => ?_, fun x hx => ?_⟩
  · show va_up (va_up V' 128 _) 129 _ c = _
    rw [am_vat, if_neg h2, am_vat, if_neg h1]; exact h.1 c h1 h2
  · have := h.2 x hx
    refine ⟨?_, ?_⟩
    · show upd (V' 128) (s_rw V i) 1 x = _
      rw [upd_ne (hx i hi)]; exact this.1
    · show upd (V' 129) (s_rw V i) (nI k) x = _
      rw [upd_ne (hx i hi)]; exact this.2
theorem of_back {I' V' : am_V} (hv : Inv V) (ha : s_alo V = true) (ho : s_opn V = true) (h : w_of V' V) (hr : ∀ i, i < s_rl V → V' 128 (s_rw V i) = 0 ∧ V' 129 (s_rw V i) = -9) (hm : RM I' V') : RM I' V := by
  have e8 : V' 128 = V 128 := by
    funext x
    rcases Classical.em (∃ i, i < s_rl V ∧ x = s_rw V i) with ⟨i, hi, e⟩ | q
    · rw [e, (hr i hi).1, (row_o hv ha ho hi).1]
    · exact (h.2 x (fun i hi e => q ⟨i, hi, e⟩)).1
  have e9 : V' 129 = V 129 := by
    funext x
    rcases Classical.em (∃ i, i < s_rl V ∧ x = s_rw V i) with ⟨i, hi, e⟩ | q
    · rw [e, (hr i hi).2]
      exact ((hv.2.2.2.1.2 _ (row_s hv ha hi).2.1).2.2.1 (row_o hv ha ho hi).1).symm
    · exact (h.2 x (fun i hi e => q ⟨i, hi, e⟩)).2
  have ee : ∀ c, V' c = V c := fun c => by
    by_cases q : c = 128
    · subst q; exact e8
    · by_cases q2 : c = 129
      · subst q2; exact e9
      · exact h.1 c q q2
  exact ⟨fun c hc => (hm.1 c hc).trans (ee c), fun j hj => (hm.2 j hj).trans (by rw [ee 113])⟩
theorem M_restore {I' V' : am_V} {L' : Nat → Nat → Int64} {m : Int32} (hv : Inv V) (ha : s_alo V = true) (ho : s_opn V = true) (hm' : RM I' V') (hof : w_of V' V) (hl : am_lo I' I) (h148 : I' 148 = I 148) (h01 : m = 0 ∨ m = 1) (h : ∀ I2, RM I2 V → am_lo I2 I → I2 148 = I 148 → R (some (.int m)) (am_mk I2 L', 0, 0)) : am_Run am_X0 (am_meth d) 212 R 97 [some (.ref 113), none, none, some (.int m), some (.int 0), none] [] (am_mk I' L', 0, 0) := by
  have hr := rl_12 hv
  refine am_up (P := fun j => ∀ I' V', RM I' V' → w_of V' V → am_lo I' I → I' 148 = I 148 → (∀ i, i < j → V' 128 (s_rw V i) = 0 ∧ V' 129 (s_rw V i) = -9) → am_Run am_X0 (am_meth d) 212 R 97 [some (.ref 113), none, none, some (.int m), some (.int (nI j)), none] [] (am_mk I' L', 0, 0)) (n := s_rl V) (fun I' V' f1 f2 f3 f4 f5 => ?_) (fun j hj ih I' V' f1 f2 f3 f4 f5 => ?_) I' V' hm' hof hl h148 (fun i hi => absurd hi (Nat.not_lt_zero i))
  · have en : I' 113 39 = nI (s_rl V) := by rw [f1.2 39 rfl, f2.1 113 (by decide) (by decide)]; exact hr.1
    exact r_M_couldTake_97 ⟨fun c => absurd (en ▸ c) (nI_nlt (Nat.le_refl _) (by omega)), fun _ => ⟨h01, h I' (of_back hv ha ho f2 f5 f1) f3 f4⟩⟩
  · have en : I' 113 39 = nI (s_rl V) := by rw [f1.2 39 rfl, f2.1 113 (by decide) (by decide)]; exact hr.1
    have rs := row_s hv ha hj
    have e146 : I' 146 j = nI (s_rw V j) := by rw [f1.1 146 rfl, f2.1 146 (by decide) (by decide)]; exact rs.1
    refine r_M_couldTake_97 ⟨fun _ => ⟨by omega, s_rw V j, rs.2.2, e146, ?_⟩, fun c => absurd (by rw [en]; exact nI_lt hj (by omega)) c⟩
    rintro _ rfl
    refine ⟨s_rw V j, rs.2.2, e146, ?_⟩
    rintro _ rfl
    have g1 := RM_up (I := I') (V := V') (c := 128) (f := upd (I' 128) (s_rw V j) 0) (g := upd (V' 128) (s_rw V j) 0) (by decide) (by rw [f1.1 128 rfl]) f1
    have g2 := RM_up (c := 129) (f := upd (I' 129) (s_rw V j) (-9)) (g := upd (V' 129) (s_rw V j) (-9)) (by decide) (by rw [f1.1 129 rfl]) g1
    refine ih _ _ g2 ⟨fun c h1 h2 => ?_, fun x hx => ?_⟩ (lo_up (by decide) (lo_up (by decide) f3)) f4 (fun i hi => ?_)
    · rw [am_vat, if_neg h2, am_vat, if_neg h1]; exact f2.1 c h1 h2
    · have := f2.2 x hx
      refine ⟨?_, ?_⟩
      · show upd (V' 128) (s_rw V j) 0 x = _
        rw [upd_ne (hx j hj)]; exact this.1
      · show upd (V' 129) (s_rw V j) (-9) x = _
        rw [upd_ne (hx j hj)]; exact this.2
    · show upd (V' 128) (s_rw V j) 0 (s_rw V i) = 0 ∧ upd (V' 129) (s_rw V j) (-9) (s_rw V i) = -9
      by_cases e : s_rw V i = s_rw V j
      · rw [e, upd_at, upd_at]; exact ⟨rfl, rfl⟩
      · rw [upd_ne e, upd_ne e]
        refine f5 i ?_
        rcases Nat.lt_or_ge i j with q | q
        · exact q
        · exact absurd (by rw [show i = j from by omega]) e
theorem ok_M_couldTake {k s : Nat} (hd : 9 ≤ d) (hm : RM I V) (hv : Inv V) (hx : w_Tx V) (ha : s_alo V = true) (ho : s_opn V = true) (hk : k < 20) (h10 : s_rl V ≤ 10) (hA : w_ar (I 148) nI (s_lst V)) (h : ∀ I' L', RM I' V → am_lo I' I → I' 148 = I 148 → R (some (.int (if s_ft k (s_rw V) (s_lst V) V s = true then 1 else 0))) (am_mk I' L', 0, 0)) : am_meth d 212 [.ref 113, .int (nI k), .int (nI s)] (am_mk I L, 0, 0) R := by
  obtain ⟨d, rfl⟩ : ∃ e, d = e + 1 := ⟨d - 1, by omega⟩
  have hr := rl_12 hv
  have ll : (s_lst V).length = s_rl V := srt_len _
  refine ar_in rfl rfl rfl (r_M_couldTake_0 ?_)
  have go : ∀ (rest : List Nat) (j : Nat) (I' V' : am_V) (L' : Nat → Nat → Int64), (s_lst V).drop j = rest → j ≤ s_rl V → RM I' V' → Inv V' → w_Tx V' → w_of V' V → am_lo I' I → I' 148 = I 148 → (∀ I' L', RM I' V → am_lo I' I → I' 148 = I 148 → R (some (.int (if s_ft k (s_rw V) rest V' s = true then 1 else 0))) (am_mk I' L', 0, 0)) → am_Run am_X0 (am_meth d) 212 R 5 [some (.ref 113), some (.int (nI k)), some (.int (nI s)), some (.int 1), some (.int (nI j)), none] [] (am_mk I' L', 0, 0) := by
    intro rest
    induction rest with
    | nil =>
      intro j I' V' L' hj hj2 f1 f2 f3 f4 f5 f6 K
      have jl : s_rl V ≤ j := by have := List.drop_eq_nil_iff.mp hj; omega
      have en : I' 113 39 = nI (s_rl V) := by rw [f1.2 39 rfl, f4.1 113 (by decide) (by decide)]; exact hr.1
      have stop := M_restore (d := d) (L' := L') (m := 1) (I := I) (R := R) hv ha ho f1 f4 f5 f6 (Or.inr rfl) (fun I2 a b c => K I2 L' a b c)
      exact r_M_couldTake_5 ⟨fun c => absurd (en ▸ c) (nI_nlt jl (by omega)), fun _ => stop⟩
    | cons a rest ih =>
      intro j I' V' L' hj hj2 f1 f2 f3 f4 f5 f6 K
      have jl : j < (s_lst V).length := by
        rcases Nat.lt_or_ge j (s_lst V).length with q | q
        · exact q
        · rw [List.drop_eq_nil_iff.mpr q] at hj; cases hj
      rw [List.drop_eq_getElem_cons jl] at hj
      injection hj with e1 e2
      have ea : (s_lst V)[j]? = some a := by rw [List.getElem?_eq_getElem jl, e1]
      have am : a < s_rl V := srt_mem.mp (List.mem_of_getElem? ea)
      have e148 : I' 148 j = nI a := by rw [f6]; exact hA j a ea
      have en : I' 113 39 = nI (s_rl V) := by rw [f1.2 39 rfl, f4.1 113 (by decide) (by decide)]; exact hr.1
      have rs := row_s hv ha am
      have e146 : I' 146 a = nI (s_rw V a) := by rw [f1.1 146 rfl, f4.1 146 (by decide) (by decide)]; exact rs.1
      have n14 : am_n V' 113 14 = am_n V 113 14 := by unfold am_n; rw [f4.1 113 (by decide) (by decide)]
      refine r_M_couldTake_5 ⟨fun _ => ⟨fun q => absurd q (by decide), fun _ => ⟨by omega, a, by omega, e148, ?_⟩⟩, fun c => absurd (by rw [en]; exact nI_lt (by omega) (by omega)) c⟩
      rw [e148, bt_f (by omega), bt_nI (by omega), e146]
      refine ⟨fun q => ?_, fun q => ?_⟩
      · refine ih (j + 1) I' V' L' e2 (by omega) f1 f2 f3 f4 f5 f6 (fun I2 L2 a1 a2 a3 => ?_)
        have := K I2 L2 a1 a2 a3
        unfold s_ft at this
        rw [if_neg (c := s.testBit a = true) (by rw [q]; decide)] at this
        exact this
      · have q : s.testBit a = true := am_bnf q
        have K : ∀ I' L', RM I' V → am_lo I' I → I' 148 = I 148 → R (some (.int (if (if s_why V' k (s_rw V a) = 0 then s_ft k (s_rw V) rest (w_tk V' k (s_rw V a)) s else false) = true then 1 else 0))) (am_mk I' L', 0, 0) := fun I2 L2 a1 a2 a3 => by
          have := K I2 L2 a1 a2 a3
          unfold s_ft at this
          rw [if_pos q] at this
          exact this
        refine ok_M_whyNot (by omega) f1 f2 f3 hk (by rw [n14]; exact rs.2.1) (fun I3 L3 m3 l3 => ⟨_, _, _, rfl, rfl, fun c => ⟨s_rw V a, rs.2.2, rfl, ?_⟩, fun c => ?_⟩)
        · rintro _ rfl _ rfl
          rw [if_pos c] at K
          have w0 := why_0 c
          refine ih (j + 1) _ (w_tk V' k (s_rw V a)) L3 e2 (by omega) (RM_tk m3) (Inv_tk f2 hk (by rw [n14]; exact rs.2.1) w0.1 w0.2) f3 (of_tk f4 am) (lo_up (by decide) (lo_up (by decide) (fun c hc => (mf_lo l3 c hc).trans (f5 c hc)))) ?_ K
          show I3 148 = _
          rw [l3 148 (by omega)]; exact f6
        · rw [if_neg c] at K
          have l3' : am_lo I3 I := fun c hc => (mf_lo l3 c hc).trans (f5 c hc)
          have stop := M_restore (d := d) (L' := L3) (m := 0) (I := I) (R := R) hv ha ho m3 f4 l3' (by rw [l3 148 (by omega)]; exact f6) (Or.inl rfl) (fun I2 a b c => K I2 L3 a b c)
          exact r_M_couldTake_5 ⟨fun _ => ⟨fun _ => stop, fun q => absurd rfl q⟩, fun _ => stop⟩
  exact go (s_lst V) 0 I V L rfl (Nat.zero_le _) hm hv hx of_r lo_r rfl h
end CR
