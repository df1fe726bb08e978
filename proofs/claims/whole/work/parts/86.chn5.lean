/-! chains: the class -/
/-- the chain's rows hold these places -/
def w_ca (V I : am_V) (l : List Nat) : Prop := I 102 7 = nI l.length ∧ w_ar (I 103) (fun a => nI (s_rw V a)) l ∧ w_ar (I 104) (fun a => nI (2 ^ a)) l
def w_cb (V I : am_V) (l : List Nat) : Prop := w_ca V I l ∧ ∀ i, i ≤ l.length → I 105 i = nI (s_sf V (l.drop i))
section CC
variable {d : Nat} {I V : am_V} {L : Nat → Nat → Int64} {R : am_R}
theorem RC_98 {I' : am_V} (h : ∀ c, c < 99 → I' c = I c) (hc : RC I V) : RC I' V := by
  have h2 : ∀ c, c < 99 → I' c = I c := h
  unfold RC Cn Ce Ca Cr Cc Cp am_r10 am_r20 am_q20 at hc ⊢
  simp (disch := decide) only [h2] at ⊢
  exact hc
theorem ok_Ru_mayAlone {k s : Nat} (hd : 7 ≤ d) (hc : RC I V) (hv : Inv V) (hk : k < 20) (hs : s < 60) (h1 : ∀ I' L', RC I' V → w_k7 I' I → s_may V k s = true → R (some (.int 1)) (am_mk I' L', 0, 0)) (h0 : ∀ I' L', RC I' V → w_k7 I' I → s_may V k s = false → R (some (.int 0)) (am_mk I' L', 0, 0)) : am_meth d 111 [.ref 99, .int (nI k), .int (nI s)] (am_mk I L, 0, 0) R := by
  obtain ⟨d, rfl⟩ : ∃ e, d = e + 1 := ⟨d - 1, by omega⟩
  obtain ⟨⟨n1, n2, n3, n4, n5, n6, n7, n8⟩, ⟨e1, e2, e3, e4, e5, e6, e7, e8, e9, e10, e11, e12, e13, e14, e15, e16, e17⟩, -⟩ := id hc
  have n67 : am_n I 67 s = am_n V 125 s := by unfold am_n; rw [e10]
  have ix67 : am_ix I 67 s 20 := by unfold am_ix am_n; rw [e10]; exact (hv.2.2.2.1.1 s hs).1
  refine ar_in rfl rfl rfl (r_Rules_mayAlone_0 (by omega) ⟨hs, ?_⟩)
  unfold s_may at h1 h0
  rw [e11, n3, n67, e9, e5]
  refine ⟨fun c => ?_, fun c => ⟨hk, hs, ix67, fun c2 => ?_, fun c2 => ?_⟩⟩
  · exact h0 I L hc (fun _ _ _ _ _ _ _ => rfl) (by rw [decide_eq_true c]; rfl)
  · exact h0 I L hc (fun _ _ _ _ _ _ _ => rfl) (by rw [decide_eq_false c, decide_eq_false c2]; rfl)
  · refine ok_Ru_worth (by omega) hc hv hk hs (fun I2 L2 hc2 h7 h8 => ⟨_, _, _, rfl, rfl, fun c3 => ?_, fun c3 => ?_⟩)
    · exact h0 I2 L2 hc2 h7 (by rw [decide_eq_false c, decide_eq_true (Classical.not_not.mp c2), decide_eq_true c3]; rfl)
    · exact h1 I2 L2 hc2 h7 (by rw [decide_eq_false c, decide_eq_true (Classical.not_not.mp c2), decide_eq_false c3]; rfl)
theorem ok_Ch_insert {l : List Nat} {j : Nat} (hd : 1 ≤ d) (hv : Inv V) (ha : s_alo V = true) (e68 : I 68 = V 126) (hj : j < s_rl V) (h10 : s_rl V ≤ 10) (hl : l.length < 10) (hml : ∀ a, a ∈ l → a < s_rl V) (hsd : w_sd (fun i => am_n V 126 (s_rw V i)) l) (hca : w_ca V I l) (h : ∀ I', (∀ c, c ≠ 102 → c ≠ 103 → c ≠ 104 → I' c = I c) → w_ca V I' (s_ins (fun i => am_n V 126 (s_rw V i)) j l) → R none (am_mk I' L, 0, 0)) : am_meth d 45 [.ref 102, .int (nI (s_rw V j)), .int (nI (2 ^ j))] (am_mk I L, 0, 0) R := by
  obtain ⟨d, rfl⟩ : ∃ e, d = e + 1 := ⟨d - 1, by omega⟩
  have rj := row_s hv ha hj
  refine ar_in rfl rfl rfl (r_Chain_insert_0 ⟨fun _ => ?_, fun c => absurd (by rw [hca.1]; exact nI_lt (b := 10) hl (by decide)) c⟩)
  rintro _ rfl
  rw [hca.1, nI_1]
  have fin : ∀ a (I' : am_V), (∀ c, c ≠ 102 → c ≠ 103 → c ≠ 104 → I' c = I c) → I' 102 7 = nI (l.length + 1) → a ≤ l.length → w_sh (I' 103) (fun a => nI (s_rw V a)) l a → w_sh (I' 104) (fun a => nI (2 ^ a)) l a → (∀ i y, a ≤ i → l[i]? = some y → am_n V 126 (s_rw V j) < am_n V 126 (s_rw V y)) → (∀ i y, a = i + 1 → l[i]? = some y → ¬ am_n V 126 (s_rw V j) < am_n V 126 (s_rw V y)) → R none (am_mk (va_up (va_up I' 103 (upd (I' 103) a (nI (s_rw V j)))) 104 (upd (I' 104) a (nI (2 ^ j)))) L, 0, 0) := by
    intro a I' g1 g0 g2 g3 g3b g4 g5
    refine h _ (fun c h1 h2 h3 => by rw [am_vat, if_neg h3, am_vat, if_neg h2]; exact g1 c h1 h2 h3) ⟨?_, ?_, ?_⟩
    · show I' 102 7 = _
      rw [g0, ins_len]
    · rw [ins_at hsd g2 g4 g5]
      exact sh_e (g := fun a => nI (s_rw V a)) (x := j) g3 g2
    · rw [ins_at hsd g2 g4 g5]
      exact sh_e (g := fun a => nI (2 ^ a)) (x := j) g3b g2
  have inner : ∀ a (I' : am_V), (∀ c, c ≠ 102 → c ≠ 103 → c ≠ 104 → I' c = I c) → I' 102 7 = nI (l.length + 1) → a ≤ l.length → w_sh (I' 103) (fun a => nI (s_rw V a)) l a → w_sh (I' 104) (fun a => nI (2 ^ a)) l a → (∀ i y, a ≤ i → l[i]? = some y → am_n V 126 (s_rw V j) < am_n V 126 (s_rw V y)) → am_Run am_X0 (am_meth d) 45 R 22 [some (.ref 102), some (.int (nI (s_rw V j))), some (.int (nI (2 ^ j))), some (.int (nI a))] [] (am_mk I' L, 0, 0) := by
    intro a
    induction a with
    | zero =>
      intro I' g1 g0 g2 g3 g3b g4
      refine r_Chain_insert_22 ⟨fun _ => ⟨by omega, ?_⟩, fun c => absurd (by decide) c⟩
      rintro _ rfl _ rfl
      exact fin 0 I' g1 g0 (Nat.zero_le _) g3 g3b g4 (fun i y e => by omega)
    | succ a iha =>
      intro I' g1 g0 g2 g3 g3b g4
      have hl2 : a < l.length := by omega
      have ey : l[a]? = some l[a] := List.getElem?_eq_getElem hl2
      generalize l[a] = y at ey
      have hy : y < s_rl V := hml y (List.mem_of_getElem? ey)
      have ry := row_s hv ha hy
      have e103 : I' 103 a = nI (s_rw V y) := g3.1 a y (by omega) ey
      have e68' : I' 68 = V 126 := by rw [g1 68 (by decide) (by decide) (by decide)]; exact e68
      have vy := (hv.2.2.2.1.1 _ ry.2.2).2.1
      have vj := (hv.2.2.2.1.1 _ rj.2.2).2.1
      have vy2 := vy.2
      have vj2 := vj.2
      refine r_Chain_insert_22 ⟨fun c => absurd c (nI_nle (by omega) (by omega)), fun _ => ⟨a, by omega, nI_pred a, s_rw V y, ry.2.2, e103, s_rw V j, rj.2.2, rfl, ?_⟩⟩
      rw [e68', vy.1, vj.1, nI_leI (by omega) (by omega)]
      refine ⟨fun c => ⟨by omega, ?_⟩, fun c => ⟨by omega, ?_⟩⟩
      · rintro _ rfl _ rfl
        refine fin (a + 1) I' g1 g0 g2 g3 g3b g4 (fun i z e ez => ?_)
        have : i = a := by omega
        subst this
        rw [ey] at ez
        cases ez
        omega
      · rintro _ rfl _ rfl
        rw [nI_m1]
        refine iha _ (fun c h1 h2 h3 => by rw [am_vat, if_neg h3, am_vat, if_neg h2]; exact g1 c h1 h2 h3) g0 (by omega) (sh_s g3) (sh_s g3b) (fun i z hi ez => ?_)
        by_cases q : i = a
        · subst q
          rw [ey] at ez
          cases ez
          omega
        · exact g4 i z (by omega) ez
  exact inner l.length _ (fun c h1 _ _ => by rw [am_vat, if_neg h1]) rfl (Nat.le_refl _) (sh_0 hca.2.1) (sh_0 hca.2.2) (fun i y hi e => by rw [List.getElem?_eq_none hi] at e; cases e)
theorem ok_compare {x y : Int32} (hd : 1 ≤ d) (h : R (some (.int (if x < y then -1 else if x = y then 0 else 1))) (am_mk I L, 0, 0)) : am_meth d 249 [.int x, .int y] (am_mk I L, 0, 0) R := by
  obtain ⟨d, rfl⟩ : ∃ e, d = e + 1 := ⟨d - 1, by omega⟩
  refine ar_in rfl rfl rfl (r_Int_compare_0 ⟨fun c => ?_, fun c => ⟨fun c2 => ?_, fun c2 => ?_⟩⟩)
  · rw [if_pos c] at h; exact h
  · rw [if_neg c, if_pos c2] at h; exact h
  · rw [if_neg c, if_neg c2] at h; exact h
theorem ok_Ch_weigh {s B : Nat} (hd : 2 ≤ d) (hs : s < 1024) (hB : B < 1024) (hD : s_D V s ≤ 20000) (hD2 : s_D V B ≤ 20000) (h0 : I 102 0 = nI (s_D V B)) (h1 : I 102 1 = nI B) (h : ∀ I' B', (∀ c, c ≠ 102 → I' c = I c) → (∀ j, j ≠ 0 → j ≠ 1 → I' 102 j = I 102 j) → I' 102 0 = nI (s_D V B') → I' 102 1 = nI B' → w_le V B B' → w_le V s B' → (B' = B ∨ B' = s) → R none (am_mk I' L, 0, 0)) : am_meth d 47 [.ref 102, .int (nI s), .int (nI (s_D V s))] (am_mk I L, 0, 0) R := by
  obtain ⟨d, rfl⟩ : ∃ e, d = e + 1 := ⟨d - 1, by omega⟩
  have stay : w_le V s B → R none (am_mk I L, 0, 0) := fun q => h I B (fun _ _ => rfl) (fun _ _ _ => rfl) h0 h1 le_r q (Or.inl rfl)
  have go : w_le V B s → R none (am_mk (va_up (va_up I 102 (upd (I 102) 0 (nI (s_D V s)))) 102 (upd ((va_up I 102 (upd (I 102) 0 (nI (s_D V s)))) 102) 1 (nI s))) L, 0, 0) := fun q => h _ s (fun c hc => by rw [am_vat, if_neg hc, am_vat, if_neg hc]) (fun j a b => by
    show upd (upd (I 102) 0 (nI (s_D V s))) 1 (nI s) j = _
    rw [upd_ne b, upd_ne a]) rfl rfl q le_r (Or.inr rfl)
  refine ar_in rfl rfl rfl (r_Chain_weigh_0 ?_)
  rw [h0]
  refine ok_compare (by omega) ⟨_, _, _, rfl, rfl, ?_⟩
  dsimp only
  rw [h1]
  have e1 : nI (s_D V s) < nI (s_D V B) ↔ s_D V s < s_D V B := nI_ltI (by omega) (by omega)
  have e2 : nI (s_D V s) = nI (s_D V B) ↔ s_D V s = s_D V B := nI_eq (by omega) (by omega)
  rcases Nat.lt_trichotomy (s_D V s) (s_D V B) with q | q | q
  · rw [if_pos (e1.mpr q)]
    exact ⟨fun z => absurd z (by decide), fun _ => ⟨fun _ => stay (Or.inl q), fun z => absurd (by decide) z⟩⟩
  · rw [if_neg (fun z => by have := e1.mp z; omega), if_pos (e2.mpr q)]
    refine ⟨fun _ => ?_, fun z => absurd rfl z⟩
    refine ok_bitCount (by omega) rfl hB ⟨_, _, _, rfl, rfl, ok_bitCount (by omega) rfl hs ⟨_, _, _, rfl, rfl, ok_compare (by omega) ⟨_, _, _, rfl, rfl, ?_⟩⟩⟩
    dsimp only
    have c1 := lt_C (s := B) (b := s)
    have c2 : s_so (nI B) 10 = s_so (nI s) 10 ↔ s_C B = s_C s := Int32.toInt_inj.symm
    by_cases x1 : s_C B < s_C s
    · rw [if_pos (c1.mpr x1)]
      exact ⟨fun z => absurd z (by decide), fun _ => ⟨fun _ => stay (Or.inr ⟨q, Or.inl x1⟩), fun z => absurd (by decide) z⟩⟩
    · rw [if_neg (fun z => x1 (c1.mp z))]
      by_cases x2 : s_C B = s_C s
      · rw [if_pos (c2.mpr x2)]
        refine ⟨fun _ => ?_, fun z => absurd rfl z⟩
        rw [h1]
        refine ok_compare (by omega) ⟨_, _, _, rfl, rfl, ?_⟩
        dsimp only
        have e3 : nI B < nI s ↔ B < s := nI_ltI (by omega) (by omega)
        have e4 : nI B = nI s ↔ B = s := nI_eq (by omega) (by omega)
        by_cases x3 : B < s
        · rw [if_pos (e3.mpr x3)]
          exact ⟨fun _ => stay (Or.inr ⟨q, Or.inr ⟨x2, by omega⟩⟩), fun z => absurd (by decide) z⟩
        · rw [if_neg (fun z => x3 (e3.mp z))]
          by_cases x4 : B = s
          · rw [if_pos (e4.mpr x4)]
            exact ⟨fun _ => stay (Or.inr ⟨q, Or.inr ⟨x2, by omega⟩⟩), fun z => absurd (by decide) z⟩
          · rw [if_neg (fun z => x4 (e4.mp z))]
            refine ⟨fun z => absurd z (by decide), fun _ => ?_⟩
            rintro _ rfl _ rfl
            exact go (Or.inr ⟨q.symm, Or.inr ⟨x2.symm, by omega⟩⟩)
      · rw [if_neg (fun z => x2 (c2.mp z))]
        refine ⟨fun z => absurd z (by decide), fun _ => ⟨fun z => absurd z (by decide), fun _ => ?_⟩⟩
        rintro _ rfl _ rfl
        exact go (Or.inr ⟨q.symm, Or.inl (by omega)⟩)
  · rw [if_neg (fun z => by have := e1.mp z; omega), if_neg (fun z => by have := e2.mp z; omega)]
    refine ⟨fun z => absurd z (by decide), fun _ => ⟨fun z => absurd z (by decide), fun _ => ?_⟩⟩
    rintro _ rfl _ rfl
    exact go (Or.inl q)
end CC
