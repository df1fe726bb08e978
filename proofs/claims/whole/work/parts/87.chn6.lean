/-! chains: the class's search -/
def w_fs (n : Nat) (I' I : am_V) : Prop := (∀ c, c ≠ 99 → c ≠ 101 → c ≠ 102 → I' c = I c) ∧ I' 102 7 = I 102 7 ∧ I' 99 8 = I 99 8 ∧ ∀ i, i < n → I' 101 i = I 101 i
section CS
variable {V : am_V} {k : Nat} {l : List Nat}
theorem rc_of {I V' : am_V} (h : w_of V' V) (hw : w_rc I V) : w_rc I V' := by
  obtain ⟨a1, a2, a3, a4, a5, a6, a7, a8, a9⟩ := hw
  have g := h.1
  refine ⟨?_, ?_, ?_, ?_, ?_, ?_, ?_, ?_, fun a b ha hb => ?_⟩
  · rw [g 113 (by decide) (by decide)]; exact a1
  · rw [g 117 (by decide) (by decide)]; exact a2
  · rw [g 125 (by decide) (by decide)]; exact a3
  · rw [g 126 (by decide) (by decide)]; exact a4
  · rw [g 127 (by decide) (by decide)]; exact a5
  · rw [g 122 (by decide) (by decide)]; exact a6
  · rw [g 114 (by decide) (by decide)]; exact a7
  · rw [g 116 (by decide) (by decide)]; exact a8
  · rw [g 115 (by decide) (by decide)]; exact a9 a b ha hb
theorem rc_fs {I' I : am_V} (h : ∀ c, c ≠ 99 → c ≠ 101 → c ≠ 102 → I' c = I c) (hw : w_rc I V) : w_rc I' V := by
  obtain ⟨a1, a2, a3, a4, a5, a6, a7, a8, a9⟩ := hw
  refine ⟨?_, ?_, ?_, ?_, ?_, ?_, ?_, ?_, fun a b ha hb => ?_⟩
  · rw [h 66 (by decide) (by decide) (by decide)]; exact a1
  · rw [h 17 (by decide) (by decide) (by decide)]; exact a2
  · rw [h 67 (by decide) (by decide) (by decide)]; exact a3
  · rw [h 68 (by decide) (by decide) (by decide)]; exact a4
  · rw [h 69 (by decide) (by decide) (by decide)]; exact a5
  · rw [h 43 (by decide) (by decide) (by decide)]; exact a6
  · rw [h 3 (by decide) (by decide) (by decide)]; exact a7
  · rw [h 4 (by decide) (by decide) (by decide)]; exact a8
  · rw [h (6 + a) (by omega) (by omega) (by omega)]; exact a9 a b ha hb
theorem cb_fs {I' I : am_V} (h : ∀ c, c ≠ 99 → c ≠ 101 → c ≠ 102 → I' c = I c) (h7 : I' 102 7 = I 102 7) (hw : w_cb V I l) : w_cb V I' l := by
  obtain ⟨⟨a1, a2, a3⟩, a4⟩ := hw
  refine ⟨⟨h7.trans a1, ?_, ?_⟩, ?_⟩
  · rw [h 103 (by decide) (by decide) (by decide)]; exact a2
  · rw [h 104 (by decide) (by decide) (by decide)]; exact a3
  · rw [h 105 (by decide) (by decide) (by decide)]; exact a4
/-- one more in the row of those that k has -/
theorem ga_tk {V' : am_V} {mm : Nat → Nat} {n s : Nat} (hg : w_ga V' (nI k) mm n) (hs : s < am_n V' 113 14) (ho : V' 128 s = 0) : w_ga (w_tk V' k s) (nI k) (fun i => if i = n then s else mm i) (n + 1) := by
  obtain ⟨g1, g2, g3⟩ := hg
  have u8 : ∀ x, (w_tk V' k s) 128 x = if x = s then 1 else V' 128 x := fun x => rfl
  have u9 : ∀ x, (w_tk V' k s) 129 x = if x = s then nI k else V' 129 x := fun x => rfl
  have ne : ∀ i, i < n → mm i ≠ s := fun i hi e => by
    have := (g1 i hi).2.1
    rw [e, ho] at this; exact absurd this (by decide)
  refine ⟨fun i hi => ?_, fun x hx h1 h2 => ?_, fun i j hi hj e => ?_⟩
  · by_cases e : i = n
    · simp only [if_pos e]
      exact ⟨hs, by rw [u8, if_pos rfl], by rw [u9, if_pos rfl]⟩
    · simp only [if_neg e]
      have := g1 i (by omega)
      exact ⟨this.1, by rw [u8, if_neg (ne i (by omega))]; exact this.2.1, by rw [u9, if_neg (ne i (by omega))]; exact this.2.2⟩
  · by_cases e : x = s
    · exact ⟨n, by omega, by simp only [if_true]; exact e.symm⟩
    · rw [u8, if_neg e] at h1
      rw [u9, if_neg e] at h2
      obtain ⟨i, hi, ei⟩ := g2 x hx h1 h2
      exact ⟨i, by omega, by simp only [if_neg (show ¬ i = n by omega)]; exact ei⟩
  · by_cases e1 : i = n
    · by_cases e2 : j = n
      · omega
      · simp only [if_pos e1, if_neg e2] at e
        exact absurd e.symm (ne j (by omega))
    · by_cases e2 : j = n
      · simp only [if_neg e1, if_pos e2] at e
        exact absurd e (ne i (by omega))
      · simp only [if_neg e1, if_neg e2] at e
        exact g3 i j (by omega) (by omega) e
theorem sf_le (hv : Inv V) (ha : s_alo V = true) : ∀ {m : List Nat}, (∀ a, a ∈ m → a < s_rl V) → s_sf V m ≤ m.length * 1501
  | [], _ => Nat.zero_le _
  | a :: m, h => by
    have h1 := sf_le hv ha (m := m) (fun b hb => h b (List.mem_cons_of_mem _ hb))
    have h2 := ln_le hv (row_s hv ha (h a List.mem_cons_self)).2.2
    show s_sf V m + s_ln V a ≤ (m.length + 1) * 1501
    rw [Nat.succ_mul]
    generalize m.length * 1501 = M at h1 ⊢
    omega
theorem ch_search (hv : Inv V) (ha : s_alo V = true) (ho : s_opn V = true) (hk : k < 20) (h10 : s_rl V ≤ 10) (hml : ∀ a, a ∈ l → a < s_rl V) (hll : l.length ≤ 10) : ∀ (rest : List Nat) (p d : Nat) (I V' : am_V) (L : Nat → Nat → Int64) (R : am_R) (mm : Nat → Nat) (n s B : Nat), l.drop p = rest → p ≤ l.length → rest.length + 7 ≤ d → Inv V' → w_of V' V → w_rc I V → w_cb V I l → w_mn I mm n → w_ga V' (nI k) mm n → n + rest.length ≤ 119 → rest.Nodup → (∀ a, a ∈ rest → V' 128 (s_rw V a) = 0 ∧ s.testBit a = false) → s < 1024 → B < 1024 → I 102 0 = nI (s_D V B) → I 102 1 = nI B → (∀ I' L' B', w_fs n I' I → I' 102 0 = nI (s_D V B') → I' 102 1 = nI B' → B' < 1024 → w_le V B B' → (B' = B ∨ w_ext k (s_rw V) rest V' s B') → (∀ s', w_ext k (s_rw V) rest V' s s' → w_le V s' B') → R none (am_mk I' L', 0, 0)) → am_meth d 46 [.ref 102, .int (nI k), .int (nI p), .int (nI s), .int (nI (s_D V s))] (am_mk I L, 0, 0) R
  | [], p, d, I, V', L, R, mm, n, s, B, hp, hp2, hd, f1, f2, f3, f4, f5, f6, f7, f8, f9, hs, hB, b0, b1, K => by
    obtain ⟨d, rfl⟩ : ∃ e, d = e + 1 := ⟨d - 1, by omega⟩
    have pl : l.length ≤ p := List.drop_eq_nil_iff.mp hp
    have hd : 0 + 7 ≤ d + 1 := hd
    refine ar_in rfl rfl rfl (r_Chain_search_0 (by omega) ⟨fun c => absurd (f4.1.1 ▸ c) (nI_nlt pl (by omega)), fun _ => ?_⟩)
    refine ok_Ch_weigh (by omega) hs hB (D_le hv ha s) (D_le hv ha B) b0 b1 (fun I' B' g1 g2 g3 g4 g5 g6 g7 => ⟨_, _, rfl, rfl, ?_⟩)
    refine K I' L B' ⟨fun c h1 h2 h3 => g1 c h3, g2 7 (by decide) (by decide), by rw [g1 99 (by decide)], fun i _ => by rw [g1 101 (by decide)]⟩ g3 g4 ?_ g5 ?_ ?_
    · rcases g7 with e | e
      · rw [e]; exact hB
      · rw [e]; exact hs
    · rcases g7 with e | e
      · exact Or.inl e
      · exact Or.inr e
    · intro s' h
      have h : s' = s := h
      rw [h]; exact g6
  | a :: rest, p, d, I, V', L, R, mm, n, s, B, hp, hp2, hd, f1, f2, f3, f4, f5, f6, f7, f8, f9, hs, hB, b0, b1, K => by
    obtain ⟨d, rfl⟩ : ∃ e, d = e + 1 := ⟨d - 1, by omega⟩
    have hd : rest.length + 1 + 7 ≤ d + 1 := hd
    have f7 : n + (rest.length + 1) ≤ 119 := f7
    have pl : p < l.length := by
      rcases Nat.lt_or_ge p l.length with q | q
      · exact q
      · rw [List.drop_eq_nil_iff.mpr q] at hp; cases hp
    have hp0 := hp
    rw [List.drop_eq_getElem_cons pl] at hp
    injection hp with e1 e2
    have ea : l[p]? = some a := by rw [List.getElem?_eq_getElem pl, e1]
    have am : a < s_rl V := hml a (List.mem_of_getElem? ea)
    have rs := row_s hv ha am
    have e103 : I 103 p = nI (s_rw V a) := f4.1.2.1 p a ea
    have e104 : I 104 p = nI (2 ^ a) := f4.1.2.2 p a ea
    have e105 := f4.2 p (by omega)
    rw [hp0] at e105
    have d1 := D_le hv ha s
    have d2 := D_le hv ha B
    have sfb : s_sf V (a :: rest) ≤ 10 * 1501 := by
      have h1 := sf_le hv ha (m := a :: rest) (fun b hb => hml b (List.mem_of_mem_drop (by rw [hp0]; exact hb)))
      have h2 : (a :: rest).length = l.length - p := by rw [← hp0, List.length_drop]
      refine Nat.le_trans h1 (Nat.mul_le_mul_right _ (by omega))
    have f8' := List.nodup_cons.mp f8
    have fa := f9 a List.mem_cons_self
    have n14 : am_n V' 113 14 = am_n V 113 14 := by unfold am_n; rw [f2.1 113 (by decide) (by decide)]
    have hst : s_rw V a < am_n V' 113 14 := by rw [n14]; exact rs.2.1
    refine ar_in rfl rfl rfl (r_Chain_search_0 (by omega) ⟨fun _ => ⟨by omega, ?_⟩, fun c => absurd (by rw [f4.1.1]; exact nI_lt pl (by omega)) c⟩)
    rw [e105, b0, nI_add, nI_ltI (by omega) (by omega), e103]
    refine ⟨fun c => ?_, fun c => ⟨by omega, ?_⟩⟩
    · refine K I L B ⟨fun _ _ _ _ => rfl, rfl, rfl, fun _ _ => rfl⟩ b0 b1 hB le_r (Or.inl rfl) (fun s' h => Or.inl ?_)
      have := ext_D (V := V) h
      omega
    · have skip : ∀ (I4 : am_V) (L4 : Nat → Nat → Int64) (B1 : Nat), w_fs n I4 I → I4 102 0 = nI (s_D V B1) → I4 102 1 = nI B1 → B1 < 1024 → w_le V B B1 → (B1 = B ∨ (s_wd V' k (s_rw V a) = 0 ∧ w_ext k (s_rw V) rest (w_tk V' k (s_rw V a)) (s ||| 2 ^ a) B1)) → (s_wd V' k (s_rw V a) = 0 → ∀ s', w_ext k (s_rw V) rest (w_tk V' k (s_rw V a)) (s ||| 2 ^ a) s' → w_le V s' B1) → am_meth d 46 [.ref 102, .int (nI k), .int (nI (p + 1)), .int (nI s), .int (nI (s_D V s))] (am_mk I4 L4, 0, 0) (am_rv (fun I17 L18 => R none (am_mk I17 L18, 0, 0))) := by
        intro I4 L4 B1 w1 w2 w3 w4 w5 w6 w7
        refine ch_search hv ha ho hk h10 hml hll rest (p + 1) d I4 V' L4 _ mm n s B1 e2 (by omega) (by omega) f1 f2 (rc_fs w1.1 f3) (cb_fs w1.1 w1.2.1 f4) ⟨w1.2.2.1.trans f5.1, f5.2.1, fun i hi => by rw [w1.2.2.2 i hi]; exact f5.2.2 i hi⟩ f6 (by omega) f8'.2 (fun b hb => f9 b (List.mem_cons_of_mem _ hb)) hs w4 w2 w3 (fun I5 L5 B2 v1 v2 v3 v4 v5 v6 v7 => ⟨_, _, rfl, rfl, ?_⟩)
        refine K I5 L5 B2 ⟨fun c h1 h2 h3 => (v1.1 c h1 h2 h3).trans (w1.1 c h1 h2 h3), v1.2.1.trans w1.2.1, v1.2.2.1.trans w1.2.2.1, fun i hi => (v1.2.2.2 i hi).trans (w1.2.2.2 i hi)⟩ v2 v3 v4 (le_t w5 v5) ?_ ?_
        · rcases v6 with e | e
          · rw [e]
            rcases w6 with e | e
            · exact Or.inl e
            · exact Or.inr (Or.inl e)
          · exact Or.inr (Or.inr e)
        · intro s' h
          rcases h with h | h
          · exact le_t (w7 h.1 s' h.2) v5
          · exact v7 s' h
      refine ok_Ru_whyNotByDays (by omega) (rc_of f2 f3) f1 f5 f6 hk hst ⟨_, _, _, rfl, rfl, fun c2 => ⟨?_, ?_⟩, fun c2 => ?_⟩
      · exact am_ixn (x := n) f5.1 (by omega) (by decide)
      · have en : am_n I 99 8 = n := am_n_e f5.1 (by omega)
        have hv' := Inv_tk f1 hk hst fa.1 (wd_0 c2)
        have hs2 : s ||| 2 ^ a < 1024 := or_lt (n := 10) hs (by omega)
        have ga := ga_tk f6 hst fa.1
        have dd : s_D V (s ||| 2 ^ a) = s_D V s + s_ln V a := D_or fa.2 am
        have e69 : I 69 = V 127 := f3.2.2.2.2.1
        have e68 : I 68 = V 126 := f3.2.2.2.1
        have fI : ∀ c, c ≠ 99 → c ≠ 101 → c ≠ 102 → (va_up (va_up I 99 (upd (I 99) 8 (I 99 8 + 1))) 101 (upd (I 101) (am_n I 99 8) (I 103 p))) c = I c := fun c h1 h2 _ => by rw [am_vat, if_neg h2, am_vat, if_neg h1]
        refine ⟨s_rw V a, ?_, rs.2.2, ?_⟩
        · show I 103 p = _
          exact e103
        · have x1 : (nI p + 1 : Int32) = nI (p + 1) := nI_1 p
          have x2 : nI s ||| (va_up (va_up I 99 (upd (I 99) 8 (I 99 8 + 1))) 101 (upd (I 101) (am_n I 99 8) (I 103 p))) 104 p = nI (s ||| 2 ^ a) := by
            show nI s ||| I 104 p = _
            rw [e104, nI_or]
          have x3 : nI (s_D V s) + ((va_up (va_up I 99 (upd (I 99) 8 (I 99 8 + 1))) 101 (upd (I 101) (am_n I 99 8) (I 103 p))) 69 (s_rw V a) - (va_up (va_up I 99 (upd (I 99) 8 (I 99 8 + 1))) 101 (upd (I 101) (am_n I 99 8) (I 103 p))) 68 (s_rw V a) + 1) = nI (s_D V (s ||| 2 ^ a)) := by
            show nI (s_D V s) + (I 69 (s_rw V a) - I 68 (s_rw V a) + 1) = _
            rw [e69, e68, ln_e hv ha am, nI_add, dd]
          rw [x1, x2, x3]
          refine ch_search hv ha ho hk h10 hml hll rest (p + 1) d _ (w_tk V' k (s_rw V a)) L _ (fun i => if i = n then s_rw V a else mm i) (n + 1) (s ||| 2 ^ a) B e2 (by omega) (by omega) hv' (of_tk f2 am) (rc_fs fI f3) (cb_fs fI rfl f4) ⟨?_, by omega, fun i hi => ?_⟩ ga (by omega) f8'.2 (fun b hb => ?_) hs2 hB b0 b1 (fun I3 L3 B1 w1 w2 w3 w4 w5 w6 w7 => ⟨_, _, rfl, rfl, ?_⟩)
          · show I 99 8 + 1 = _
            rw [f5.1, nI_1]
          · show upd (I 101) (am_n I 99 8) (I 103 p) i = nI (if i = n then s_rw V a else mm i) ∧ (if i = n then s_rw V a else mm i) < 60
            rw [en]
            by_cases e : i = n
            · rw [if_pos e, e, upd_at]; exact ⟨e103, rs.2.2⟩
            · rw [if_neg e, upd_ne e]; exact f5.2.2 i (by omega)
          · have fb := f9 b (List.mem_cons_of_mem _ hb)
            have ne : b ≠ a := fun e => f8'.1 (by rw [← e]; exact hb)
            have bm : b < s_rl V := hml b (List.mem_of_mem_drop (by rw [hp0]; exact List.mem_cons_of_mem _ hb))
            refine ⟨?_, ?_⟩
            · show upd (V' 128) (s_rw V a) 1 (s_rw V b) = 0
              rw [upd_ne (fun e => ne ((row_o hv ha ho am).2 b bm e))]; exact fb.1
            · rw [or_bt, fb.2, decide_eq_false (fun e => ne e.symm)]; rfl
          · have e8 : I3 99 8 = nI (n + 1) := by
              rw [w1.2.2.1]
              show I 99 8 + 1 = _
              rw [f5.1, nI_1]
            refine ok_Ru_dropLast (by omega) e8 (by omega) ⟨_, _, rfl, rfl, ?_⟩
            refine skip _ L3 B1 ⟨fun c h1 h2 h3 => ?_, ?_, ?_, fun i hi => ?_⟩ w2 w3 w4 w5 ?_ (fun _ => w7)
            · rw [am_vat, if_neg h1, w1.1 c h1 h2 h3]; exact fI c h1 h2 h3
            · show I3 102 7 = _
              rw [w1.2.1]; rfl
            · show nI n = _
              exact f5.1.symm
            · show I3 101 i = _
              rw [w1.2.2.2 i (by omega)]
              show upd (I 101) (am_n I 99 8) (I 103 p) i = _
              rw [en, upd_ne (by omega)]
            · rcases w6 with e | e
              · exact Or.inl e
              · exact Or.inr ⟨c2, e⟩
      · rw [nI_1]
        exact skip I L B ⟨fun _ _ _ _ => rfl, rfl, rfl, fun _ _ => rfl⟩ b0 b1 hB le_r (Or.inl rfl) (fun z => absurd z c2)
end CS
