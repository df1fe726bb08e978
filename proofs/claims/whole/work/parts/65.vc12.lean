theorem r_M_evaluated_0 {d : Nat} (hd : 1 ≤ d) {R : am_R} {I : Nat → Nat → Int32} {L : Nat → Nat → Int64} {t : Nat} {k : Nat} {s : Nat} (h : (0 < 7) ∧ (am_Run am_X0 (am_meth d) 174 R 11 [some (.ref 113), some (.int (nI t)), some (.int (nI k)), some (.int (nI s)), some (.int 0), some (.int 0), none, none, none] [] (am_mk (w_op I 0) L, 0, 0))) : am_Run am_X0 (am_meth d) 174 R 0 [some (.ref 113), some (.int (nI t)), some (.int (nI k)), some (.int (nI s)), none, none, none, none, none] [] (am_mk I L, 0, 0) := by
  refine ar_iconst (v := 0) (q := 1) rfl rfl rfl ?_
  refine ar_istore (ls' := [some (.ref 113), some (.int (nI t)), some (.int (nI k)), some (.int (nI s)), some (.int 0), none, none, none, none]) (q := 3) rfl rfl rfl rfl ?_
  refine ar_aload_n (j := 0) (q := 4) rfl rfl rfl rfl ?_
  refine ar_iconst (v := 0) (q := 5) rfl rfl rfl ?_
  refine ar_invv (as := [.int 0]) (rest := []) (b2 := (0, 0)) (b3 := (0, 0)) (q := 8) rfl rfl rfl rfl mk_113 rfl rfl rfl rfl rfl ?_
  obtain ⟨hp_1, h⟩ := h
  refine ok_M_open (by omega) rfl hp_1 ?_
  show am_Run am_X0 (am_meth d) 174 R 8 [some (.ref 113), some (.int (nI t)), some (.int (nI k)), some (.int (nI s)), some (.int 0), none, none, none, none] [] (am_mk (w_op I 0) L, 0, 0)
  refine ar_iconst (v := 0) (q := 9) rfl rfl rfl ?_
  refine ar_istore (ls' := [some (.ref 113), some (.int (nI t)), some (.int (nI k)), some (.int (nI s)), some (.int 0), some (.int 0), none, none, none]) (q := 11) rfl rfl rfl rfl ?_
  exact am_Run.weak (ls' := _) (by exact ⟨rfl, ⟨rfl, ⟨rfl, ⟨rfl, ⟨rfl, ⟨rfl, trivial⟩⟩⟩⟩⟩⟩) h
theorem r_M_evaluated_11 {d : Nat} (hd : 3 ≤ d) {R : am_R} {I : Nat → Nat → Int32} {L : Nat → Nat → Int64} {t : Nat} {k : Nat} {s : Nat} {l : Nat} {i : Nat} (h : t < 30 ∧ ((((nI i) < (I 136 t) → (∃ j_3 : Nat, j_3 < 1800 ∧ ((nI t) * 60) + (nI i) = nI j_3 ∧ ((((I 137 j_3) = 40 → ((l + 1 < 7) ∧ (am_Run am_X0 (am_meth d) 174 R 11 [some (.ref 113), some (.int (nI t)), some (.int (nI k)), some (.int (nI s)), some (.int (nI (l + 1))), some (.int (nI (i + 1))), none, none, none] [] (am_mk (w_op I (l + 1)) L, 0, 0)))) ∧ (¬ (I 137 j_3) = 40 → ((((I 137 j_3) = 41 → (∃ j_9 : Nat, ((nI l) + (-1)) + 1 = nI j_9 ∧ ((j_9 < 7) ∧ (∃ j_12 : Nat, (nI l) + (-1) = nI j_12 ∧ ((j_12 < 7) ∧ (am_Run am_X0 (am_meth d) 174 R 11 [some (.ref 113), some (.int (nI t)), some (.int (nI k)), some (.int (nI s)), some (.int ((nI l) + (-1))), some (.int (nI (i + 1))), none, none, none] [] (am_mk I (va_up L 141 (vp_updL (L 141) j_12 (w_un (I 142 j_12) (L 141 j_12) (w_clo (I 143 j_9) (L 144 j_9) (w_tot (I 140 j_9) (L 139 j_9) (L 141 j_9)))))), 0, 0))))))) ∧ (¬ (I 137 j_3) = 41 → ((((I 137 j_3) = 42 → (l < 7 ∧ (∀ I_17 : Nat → Nat → Int32, I_17 = va_up I 142 (upd (I 142) l (I 137 j_3)) → (am_Run am_X0 (am_meth d) 174 R 11 [some (.ref 113), some (.int (nI t)), some (.int (nI k)), some (.int (nI s)), some (.int (nI l)), some (.int (nI (i + 1))), none, none, none] [] (am_mk I_17 L, 0, 0))))) ∧ (¬ (I 137 j_3) = 42 → ((((I 137 j_3) = 47 → (l < 7 ∧ (∀ I_21 : Nat → Nat → Int32, I_21 = va_up I 142 (upd (I 142) l (I 137 j_3)) → (am_Run am_X0 (am_meth d) 174 R 11 [some (.ref 113), some (.int (nI t)), some (.int (nI k)), some (.int (nI s)), some (.int (nI l)), some (.int (nI (i + 1))), none, none, none] [] (am_mk I_21 L, 0, 0))))) ∧ (¬ (I 137 j_3) = 47 → ((((((I 137 j_3) = 43 ∨ (I 137 j_3) = 45) ∨ (I 137 j_3) = 42 ∨ (I 137 j_3) = 47) → ((l < 7) ∧ (l < 7 ∧ (∀ L_26 : Nat → Nat → Int64, L_26 = va_up L 139 (vp_updL (L 139) l (w_tot (I 140 l) (L 139 l) (L 141 l))) → (∀ I_28 : Nat → Nat → Int32, I_28 = va_up I 140 (upd (I 140) l (I 137 j_3)) → (∀ I_30 : Nat → Nat → Int32, I_30 = va_up I_28 142 (upd (I_28 142) l 0) → (am_Run am_X0 (am_meth d) 174 R 11 [some (.ref 113), some (.int (nI t)), some (.int (nI k)), some (.int (nI s)), some (.int (nI l)), some (.int (nI (i + 1))), none, none, none] [] (am_mk I_30 L_26, 0, 0)))))))) ∧ (¬ ((((I 137 j_3) = 43 ∨ (I 137 j_3) = 45) ∨ (I 137 j_3) = 42 ∨ (I 137 j_3) = 47)) → (((((I 137 j_3) = 60 ∨ (I 137 j_3) = 61 ∨ (I 137 j_3) = 62) → ((l < 7) ∧ (l < 7 ∧ (∀ L_35 : Nat → Nat → Int64, L_35 = va_up L 144 (vp_updL (L 144) l (w_tot (I 140 l) (L 139 l) (L 141 l))) → (∀ I_37 : Nat → Nat → Int32, I_37 = va_up I 143 (upd (I 143) l (I 137 j_3)) → (∀ I_39 : Nat → Nat → Int32, I_39 = va_up I_37 140 (upd (I_37 140) l 0) → (∀ I_41 : Nat → Nat → Int32, I_41 = va_up I_39 142 (upd (I_39 142) l 0) → (am_Run am_X0 (am_meth d) 174 R 11 [some (.ref 113), some (.int (nI t)), some (.int (nI k)), some (.int (nI s)), some (.int (nI l)), some (.int (nI (i + 1))), none, none, none] [] (am_mk I_41 L_35, 0, 0))))))))) ∧ (¬ (((I 137 j_3) = 60 ∨ (I 137 j_3) = 61 ∨ (I 137 j_3) = 62)) → ((((p_let (I 137 j_3)).isSome = true → (am_meth d 183 [.ref 113, .int (I 137 j_3), .int (nI k), .int (nI s)] (am_mk I L, 0, 0) (am_rl (fun z_44 I_45 L_46 => (l < 7) ∧ (am_Run am_X0 (am_meth d) 174 R 11 [some (.ref 113), some (.int (nI t)), some (.int (nI k)), some (.int (nI s)), some (.int (nI l)), some (.int (nI (i + 1))), none, none, none] [] (am_mk I_45 (va_up L_46 141 (vp_updL (L_46 141) l (w_un (I_45 142 l) (L_46 141 l) z_44))), 0, 0)))))) ∧ (¬ ((p_let (I 137 j_3)).isSome = true) → (am_Run am_X0 (am_meth d) 174 R 237 [some (.ref 113), some (.int (nI t)), some (.int (nI k)), some (.int (nI s)), some (.int (nI l)), some (.int (nI (i + 1))), none, some (.long (((I 137 j_3) - 48 : Int32).toInt64)), none] [] (am_mk I L, 0, 0))))))))))))))))))))))))) ∧ (¬ (nI i) < (I 136 t) → ((0 < 7) ∧ (R (some (.long (w_tot (I 140 0) (L 139 0) (L 141 0)))) (am_mk I L, 0, 0))))))) : am_Run am_X0 (am_meth d) 174 R 11 [some (.ref 113), some (.int (nI t)), some (.int (nI k)), some (.int (nI s)), some (.int (nI l)), some (.int (nI i)), none, none, none] [] (am_mk I L, 0, 0) := by
  refine ar_iload (q := 13) rfl rfl rfl ?_
  refine ar_aload_n (j := 0) (q := 14) rfl rfl rfl rfl ?_
  refine ar_getf (v := .ref 136) (q := 17) rfl rfl mk_113 rfl rfl ?_
  refine ar_iload_n (j := 1) (q := 18) rfl rfl rfl rfl ?_
  obtain ⟨hx_1, h⟩ := h
  refine ar_iald (v := I 136 t) (q := 19) rfl mk_136 (am_inE rfl hx_1 (by decide)) (am_clE (n := 30) rfl hx_1 (by decide)) rfl ?_
  obtain ⟨hA, hB⟩ := h
  refine ar_br am_d_ge (t := 310) (q := 22) rfl rfl rfl (fun c_2 => ?_) (fun c_2 => ?_)
  · have h := hB c_2
    clear hA hB
    refine ar_aload_n (j := 0) (q := 311) rfl rfl rfl rfl ?_
    refine ar_iconst (v := 0) (q := 312) rfl rfl rfl ?_
    refine ar_invv (as := [.int 0]) (rest := []) (b2 := (0, 0)) (b3 := (0, 0)) (q := 315) rfl rfl rfl rfl mk_113 rfl rfl rfl rfl rfl ?_
    obtain ⟨hp_48, h⟩ := h
    refine ok_M_total (by omega) rfl hp_48 ?_
    show am_Run am_X0 (am_meth d) 174 R 315 [some (.ref 113), some (.int (nI t)), some (.int (nI k)), some (.int (nI s)), some (.int (nI l)), some (.int (nI i)), none, none, none] [.long (w_tot (I 140 0) (L 139 0) (L 141 0))] (am_mk I L, 0, 0)
    exact ar_lret rfl rfl h
  · have c_2 := Classical.not_not.mp c_2
    have h := hA c_2
    clear hA hB
    refine ar_aload_n (j := 0) (q := 23) rfl rfl rfl rfl ?_
    refine ar_getf (v := .ref 137) (q := 26) rfl rfl mk_113 rfl rfl ?_
    refine ar_iload_n (j := 1) (q := 27) rfl rfl rfl rfl ?_
    refine ar_bipush (v := 60) (q := 29) rfl rfl rfl ?_
    refine ar_ib (i := .imul) (z := (nI t) * 60) (q := 30) rfl rfl rfl rfl rfl ?_
    refine ar_iload (q := 32) rfl rfl rfl ?_
    refine ar_ib (i := .iadd) (z := ((nI t) * 60) + (nI i)) (q := 33) rfl rfl rfl rfl rfl ?_
    obtain ⟨j_3, hx_4, hi_5, h⟩ := h
    refine ar_bald (v := I 137 j_3) (q := 34) rfl (Or.inl rfl) mk_137 (am_inE hi_5 hx_4 (by decide)) (am_clE (n := 1800) hi_5 hx_4 (by decide)) rfl ?_
    refine ar_istore (ls' := [some (.ref 113), some (.int (nI t)), some (.int (nI k)), some (.int (nI s)), some (.int (nI l)), some (.int (nI i)), some (.int (I 137 j_3)), none, none]) (q := 36) rfl rfl rfl rfl ?_
    refine ar_iinc (v := nI (i + 1)) (ls' := [some (.ref 113), some (.int (nI t)), some (.int (nI k)), some (.int (nI s)), some (.int (nI l)), some (.int (nI (i + 1))), some (.int (I 137 j_3)), none, none]) (q := 39) rfl rfl rfl (nI_1 _) rfl rfl ?_
    refine ar_iload (q := 41) rfl rfl rfl ?_
    refine ar_bipush (v := 40) (q := 43) rfl rfl rfl ?_
    obtain ⟨hA, hB⟩ := h
    refine ar_br am_c_ne (t := 58) (q := 46) rfl rfl rfl (fun c_6 => ?_) (fun c_6 => ?_)
    · have h := hB c_6
      clear hA hB
      refine ar_iload (q := 60) rfl rfl rfl ?_
      refine ar_bipush (v := 41) (q := 62) rfl rfl rfl ?_
      obtain ⟨hA, hB⟩ := h
      refine ar_br am_c_ne (t := 85) (q := 65) rfl rfl rfl (fun c_8 => ?_) (fun c_8 => ?_)
      · have h := hB c_8
        clear hA hB
        refine ar_iload (q := 87) rfl rfl rfl ?_
        refine ar_bipush (v := 42) (q := 89) rfl rfl rfl ?_
        obtain ⟨hA, hB⟩ := h
        refine ar_br am_c_eq (t := 99) (q := 92) rfl rfl rfl (fun c_15 => ?_) (fun c_15 => ?_)
        · have h := hA c_15
          clear hA hB
          refine ar_aload_n (j := 0) (q := 100) rfl rfl rfl rfl ?_
          refine ar_getf (v := .ref 142) (q := 103) rfl rfl mk_113 rfl rfl ?_
          refine ar_iload (q := 105) rfl rfl rfl ?_
          refine ar_iload (q := 107) rfl rfl rfl ?_
          obtain ⟨hx_16, h⟩ := h
          obtain ⟨I_17, hI_18⟩ : ∃ z : Nat → Nat → Int32, z = va_up I 142 (upd (I 142) l (I 137 j_3)) := ⟨_, rfl⟩
          have h := h I_17 hI_18
          refine ar_iast (hp2 := am_mk I_17 L) (q := 108) rfl mk_142 (am_inE rfl hx_16 (by decide)) (by rw [am_clT rfl hx_16 (by decide), hI_18]; exact mk_s142) rfl ?_
          refine ar_goto (t := 307) rfl rfl ?_
          refine ar_goto (t := 11) rfl rfl ?_
          exact am_Run.weak (ls' := _) (by exact ⟨rfl, ⟨rfl, ⟨rfl, ⟨rfl, ⟨rfl, ⟨rfl, trivial⟩⟩⟩⟩⟩⟩) h
        · have h := hB c_15
          clear hA hB
          refine ar_iload (q := 94) rfl rfl rfl ?_
          refine ar_bipush (v := 47) (q := 96) rfl rfl rfl ?_
          obtain ⟨hA, hB⟩ := h
          refine ar_br am_c_ne (t := 111) (q := 99) rfl rfl rfl (fun c_19 => ?_) (fun c_19 => ?_)
          · have h := hB c_19
            clear hA hB
            refine ar_aload_n (j := 0) (q := 112) rfl rfl rfl rfl ?_
            refine ar_iload (q := 114) rfl rfl rfl ?_
            refine ar_invv (as := [.int (I 137 j_3)]) (rest := []) (b2 := (0, 0)) (b3 := (0, 0)) (q := 117) rfl rfl rfl rfl mk_113 rfl rfl rfl rfl rfl ?_
            obtain ⟨hA, hB⟩ := h
            refine ok_M_isSign (by omega)  (fun c_23 => ?_) (fun c_23 => ?_)
            · have h := hA c_23
              clear hA hB
              show am_Run am_X0 (am_meth d) 174 R 117 [some (.ref 113), some (.int (nI t)), some (.int (nI k)), some (.int (nI s)), some (.int (nI l)), some (.int (nI (i + 1))), some (.int (I 137 j_3)), none, none] [.int 1] (am_mk I L, 0, 0)
              refine ar_b0 am_c_eq (t := 153) (q := 120) rfl rfl rfl (fun c9 => absurd c9 (by decide)) (fun _ => ?_)
              refine ar_aload_n (j := 0) (q := 121) rfl rfl rfl rfl ?_
              refine ar_getf (v := .ref 139) (q := 124) rfl rfl mk_113 rfl rfl ?_
              refine ar_iload (q := 126) rfl rfl rfl ?_
              refine ar_aload_n (j := 0) (q := 127) rfl rfl rfl rfl ?_
              refine ar_iload (q := 129) rfl rfl rfl ?_
              refine ar_invv (as := [.int (nI l)]) (rest := [.int (nI l), .ref 139]) (b2 := (0, 0)) (b3 := (0, 0)) (q := 132) rfl rfl rfl rfl mk_113 rfl rfl rfl rfl rfl ?_
              obtain ⟨hp_24, h⟩ := h
              refine ok_M_total (by omega) rfl hp_24 ?_
              show am_Run am_X0 (am_meth d) 174 R 132 [some (.ref 113), some (.int (nI t)), some (.int (nI k)), some (.int (nI s)), some (.int (nI l)), some (.int (nI (i + 1))), some (.int (I 137 j_3)), none, none] [.long (w_tot (I 140 l) (L 139 l) (L 141 l)), .int (nI l), .ref 139] (am_mk I L, 0, 0)
              obtain ⟨hx_25, h⟩ := h
              obtain ⟨L_26, hL_27⟩ : ∃ z : Nat → Nat → Int64, z = va_up L 139 (vp_updL (L 139) l (w_tot (I 140 l) (L 139 l) (L 141 l))) := ⟨_, rfl⟩
              have h := h L_26 hL_27
              refine ar_last (hp2 := am_mk I L_26) (q := 133) rfl mk_139 (am_inE rfl hx_25 (by decide)) (by rw [am_clT rfl hx_25 (by decide), hL_27]; exact mk_s139) rfl ?_
              refine ar_aload_n (j := 0) (q := 134) rfl rfl rfl rfl ?_
              refine ar_getf (v := .ref 140) (q := 137) rfl rfl mk_113 rfl rfl ?_
              refine ar_iload (q := 139) rfl rfl rfl ?_
              refine ar_iload (q := 141) rfl rfl rfl ?_
              obtain ⟨I_28, hI_29⟩ : ∃ z : Nat → Nat → Int32, z = va_up I 140 (upd (I 140) l (I 137 j_3)) := ⟨_, rfl⟩
              have h := h I_28 hI_29
              refine ar_iast (hp2 := am_mk I_28 L_26) (q := 142) rfl mk_140 (am_inE rfl hx_25 (by decide)) (by rw [am_clT rfl hx_25 (by decide), hI_29]; exact mk_s140) rfl ?_
              refine ar_aload_n (j := 0) (q := 143) rfl rfl rfl rfl ?_
              refine ar_getf (v := .ref 142) (q := 146) rfl rfl mk_113 rfl rfl ?_
              refine ar_iload (q := 148) rfl rfl rfl ?_
              refine ar_iconst (v := 0) (q := 149) rfl rfl rfl ?_
              obtain ⟨I_30, hI_31⟩ : ∃ z : Nat → Nat → Int32, z = va_up I_28 142 (upd (I_28 142) l 0) := ⟨_, rfl⟩
              have h := h I_30 hI_31
              refine ar_iast (hp2 := am_mk I_30 L_26) (q := 150) rfl mk_142 (am_inE rfl hx_25 (by decide)) (by rw [am_clT rfl hx_25 (by decide), hI_31]; exact mk_s142) rfl ?_
              refine ar_goto (t := 307) rfl rfl ?_
              refine ar_goto (t := 11) rfl rfl ?_
              exact am_Run.weak (ls' := _) (by exact ⟨rfl, ⟨rfl, ⟨rfl, ⟨rfl, ⟨rfl, ⟨rfl, trivial⟩⟩⟩⟩⟩⟩) h
            · have h := hB c_23
              clear hA hB
              show am_Run am_X0 (am_meth d) 174 R 117 [some (.ref 113), some (.int (nI t)), some (.int (nI k)), some (.int (nI s)), some (.int (nI l)), some (.int (nI (i + 1))), some (.int (I 137 j_3)), none, none] [.int 0] (am_mk I L, 0, 0)
              refine ar_b0 am_c_eq (t := 153) (q := 120) rfl rfl rfl (fun _ => ?_) (fun c9 => absurd (by decide) c9)
              refine ar_aload_n (j := 0) (q := 154) rfl rfl rfl rfl ?_
              refine ar_iload (q := 156) rfl rfl rfl ?_
              refine ar_invv (as := [.int (I 137 j_3)]) (rest := []) (b2 := (0, 0)) (b3 := (0, 0)) (q := 159) rfl rfl rfl rfl mk_113 rfl rfl rfl rfl rfl ?_
              obtain ⟨hA, hB⟩ := h
              refine ok_M_isRelation (by omega)  (fun c_32 => ?_) (fun c_32 => ?_)
              · have h := hA c_32
                clear hA hB
                show am_Run am_X0 (am_meth d) 174 R 159 [some (.ref 113), some (.int (nI t)), some (.int (nI k)), some (.int (nI s)), some (.int (nI l)), some (.int (nI (i + 1))), some (.int (I 137 j_3)), none, none] [.int 1] (am_mk I L, 0, 0)
                refine ar_b0 am_c_eq (t := 203) (q := 162) rfl rfl rfl (fun c9 => absurd c9 (by decide)) (fun _ => ?_)
                refine ar_aload_n (j := 0) (q := 163) rfl rfl rfl rfl ?_
                refine ar_getf (v := .ref 144) (q := 166) rfl rfl mk_113 rfl rfl ?_
                refine ar_iload (q := 168) rfl rfl rfl ?_
                refine ar_aload_n (j := 0) (q := 169) rfl rfl rfl rfl ?_
                refine ar_iload (q := 171) rfl rfl rfl ?_
                refine ar_invv (as := [.int (nI l)]) (rest := [.int (nI l), .ref 144]) (b2 := (0, 0)) (b3 := (0, 0)) (q := 174) rfl rfl rfl rfl mk_113 rfl rfl rfl rfl rfl ?_
                obtain ⟨hp_33, h⟩ := h
                refine ok_M_total (by omega) rfl hp_33 ?_
                show am_Run am_X0 (am_meth d) 174 R 174 [some (.ref 113), some (.int (nI t)), some (.int (nI k)), some (.int (nI s)), some (.int (nI l)), some (.int (nI (i + 1))), some (.int (I 137 j_3)), none, none] [.long (w_tot (I 140 l) (L 139 l) (L 141 l)), .int (nI l), .ref 144] (am_mk I L, 0, 0)
                obtain ⟨hx_34, h⟩ := h
                obtain ⟨L_35, hL_36⟩ : ∃ z : Nat → Nat → Int64, z = va_up L 144 (vp_updL (L 144) l (w_tot (I 140 l) (L 139 l) (L 141 l))) := ⟨_, rfl⟩
                have h := h L_35 hL_36
                refine ar_last (hp2 := am_mk I L_35) (q := 175) rfl mk_144 (am_inE rfl hx_34 (by decide)) (by rw [am_clT rfl hx_34 (by decide), hL_36]; exact mk_s144) rfl ?_
                refine ar_aload_n (j := 0) (q := 176) rfl rfl rfl rfl ?_
                refine ar_getf (v := .ref 143) (q := 179) rfl rfl mk_113 rfl rfl ?_
                refine ar_iload (q := 181) rfl rfl rfl ?_
                refine ar_iload (q := 183) rfl rfl rfl ?_
                obtain ⟨I_37, hI_38⟩ : ∃ z : Nat → Nat → Int32, z = va_up I 143 (upd (I 143) l (I 137 j_3)) := ⟨_, rfl⟩
                have h := h I_37 hI_38
                refine ar_iast (hp2 := am_mk I_37 L_35) (q := 184) rfl mk_143 (am_inE rfl hx_34 (by decide)) (by rw [am_clT rfl hx_34 (by decide), hI_38]; exact mk_s143) rfl ?_
                refine ar_aload_n (j := 0) (q := 185) rfl rfl rfl rfl ?_
                refine ar_getf (v := .ref 140) (q := 188) rfl rfl mk_113 rfl rfl ?_
                refine ar_iload (q := 190) rfl rfl rfl ?_
                refine ar_iconst (v := 0) (q := 191) rfl rfl rfl ?_
                obtain ⟨I_39, hI_40⟩ : ∃ z : Nat → Nat → Int32, z = va_up I_37 140 (upd (I_37 140) l 0) := ⟨_, rfl⟩
                have h := h I_39 hI_40
                refine ar_iast (hp2 := am_mk I_39 L_35) (q := 192) rfl mk_140 (am_inE rfl hx_34 (by decide)) (by rw [am_clT rfl hx_34 (by decide), hI_40]; exact mk_s140) rfl ?_
                refine ar_aload_n (j := 0) (q := 193) rfl rfl rfl rfl ?_
                refine ar_getf (v := .ref 142) (q := 196) rfl rfl mk_113 rfl rfl ?_
                refine ar_iload (q := 198) rfl rfl rfl ?_
                refine ar_iconst (v := 0) (q := 199) rfl rfl rfl ?_
                obtain ⟨I_41, hI_42⟩ : ∃ z : Nat → Nat → Int32, z = va_up I_39 142 (upd (I_39 142) l 0) := ⟨_, rfl⟩
                have h := h I_41 hI_42
                refine ar_iast (hp2 := am_mk I_41 L_35) (q := 200) rfl mk_142 (am_inE rfl hx_34 (by decide)) (by rw [am_clT rfl hx_34 (by decide), hI_42]; exact mk_s142) rfl ?_
                refine ar_goto (t := 307) rfl rfl ?_
                refine ar_goto (t := 11) rfl rfl ?_
                exact am_Run.weak (ls' := _) (by exact ⟨rfl, ⟨rfl, ⟨rfl, ⟨rfl, ⟨rfl, ⟨rfl, trivial⟩⟩⟩⟩⟩⟩) h
              · have h := hB c_32
                clear hA hB
                show am_Run am_X0 (am_meth d) 174 R 159 [some (.ref 113), some (.int (nI t)), some (.int (nI k)), some (.int (nI s)), some (.int (nI l)), some (.int (nI (i + 1))), some (.int (I 137 j_3)), none, none] [.int 0] (am_mk I L, 0, 0)
                refine ar_b0 am_c_eq (t := 203) (q := 162) rfl rfl rfl (fun _ => ?_) (fun c9 => absurd (by decide) c9)
                refine ar_aload_n (j := 0) (q := 204) rfl rfl rfl rfl ?_
                refine ar_iload (q := 206) rfl rfl rfl ?_
                refine ar_invv (as := [.int (I 137 j_3)]) (rest := []) (b2 := (0, 0)) (b3 := (0, 0)) (q := 209) rfl rfl rfl rfl mk_113 rfl rfl rfl rfl rfl ?_
                obtain ⟨hA, hB⟩ := h
                refine ok_M_isLetter (by omega)  (fun c_43 => ?_) (fun c_43 => ?_)
                · have h := hA c_43
                  clear hA hB
                  show am_Run am_X0 (am_meth d) 174 R 209 [some (.ref 113), some (.int (nI t)), some (.int (nI k)), some (.int (nI s)), some (.int (nI l)), some (.int (nI (i + 1))), some (.int (I 137 j_3)), none, none] [.int 1] (am_mk I L, 0, 0)
                  refine ar_b0 am_c_eq (t := 229) (q := 212) rfl rfl rfl (fun c9 => absurd c9 (by decide)) (fun _ => ?_)
                  refine ar_aload_n (j := 0) (q := 213) rfl rfl rfl rfl ?_
                  refine ar_iload (q := 215) rfl rfl rfl ?_
                  refine ar_aload_n (j := 0) (q := 216) rfl rfl rfl rfl ?_
                  refine ar_iload (q := 218) rfl rfl rfl ?_
                  refine ar_iload_n (j := 2) (q := 219) rfl rfl rfl rfl ?_
                  refine ar_iload_n (j := 3) (q := 220) rfl rfl rfl rfl ?_
                  refine ar_invv (as := [.int (I 137 j_3), .int (nI k), .int (nI s)]) (rest := [.int (nI l), .ref 113]) (b2 := (0, 0)) (b3 := (0, 0)) (q := 223) rfl rfl rfl rfl mk_113 rfl rfl rfl rfl rfl ?_
                  refine am_meth_mono d _ _ _ _ _ (fun v9 m9 h9 => ?_) h
                  obtain ⟨z_44, I_45, L_46, rfl, rfl, h⟩ := h9
                  show am_Run am_X0 (am_meth d) 174 R 223 [some (.ref 113), some (.int (nI t)), some (.int (nI k)), some (.int (nI s)), some (.int (nI l)), some (.int (nI (i + 1))), some (.int (I 137 j_3)), none, none] [.long z_44, .int (nI l), .ref 113] (am_mk I_45 L_46, 0, 0)
                  refine ar_invv (as := [.int (nI l), .long z_44]) (rest := []) (b2 := (0, 0)) (b3 := (0, 0)) (q := 226) rfl rfl rfl rfl mk_113 rfl rfl rfl rfl rfl ?_
                  obtain ⟨hp_47, h⟩ := h
                  refine ok_M_unit (by omega) rfl hp_47 ?_
                  show am_Run am_X0 (am_meth d) 174 R 226 [some (.ref 113), some (.int (nI t)), some (.int (nI k)), some (.int (nI s)), some (.int (nI l)), some (.int (nI (i + 1))), some (.int (I 137 j_3)), none, none] [] (am_mk I_45 (va_up L_46 141 (vp_updL (L_46 141) l (w_un (I_45 142 l) (L_46 141 l) z_44))), 0, 0)
                  refine ar_goto (t := 307) rfl rfl ?_
                  refine ar_goto (t := 11) rfl rfl ?_
                  exact am_Run.weak (ls' := _) (by exact ⟨rfl, ⟨rfl, ⟨rfl, ⟨rfl, ⟨rfl, ⟨rfl, trivial⟩⟩⟩⟩⟩⟩) h
                · have h := hB c_43
                  clear hA hB
                  show am_Run am_X0 (am_meth d) 174 R 209 [some (.ref 113), some (.int (nI t)), some (.int (nI k)), some (.int (nI s)), some (.int (nI l)), some (.int (nI (i + 1))), some (.int (I 137 j_3)), none, none] [.int 0] (am_mk I L, 0, 0)
                  refine ar_b0 am_c_eq (t := 229) (q := 212) rfl rfl rfl (fun _ => ?_) (fun c9 => absurd (by decide) c9)
                  refine ar_iload (q := 231) rfl rfl rfl ?_
                  refine ar_bipush (v := 48) (q := 233) rfl rfl rfl ?_
                  refine ar_ib (i := .isub) (z := (I 137 j_3) - 48) (q := 234) rfl rfl rfl rfl rfl ?_
                  refine ar_st (i := .i2l) (n := 1) (st' := [.long (((I 137 j_3) - 48 : Int32).toInt64)]) (q := 235) rfl rfl rfl rfl ?_
                  refine ar_lstore (ls' := [some (.ref 113), some (.int (nI t)), some (.int (nI k)), some (.int (nI s)), some (.int (nI l)), some (.int (nI (i + 1))), some (.int (I 137 j_3)), some (.long (((I 137 j_3) - 48 : Int32).toInt64)), none]) (q := 237) rfl rfl rfl rfl ?_
                  exact am_Run.weak (ls' := _) (by exact ⟨rfl, ⟨rfl, ⟨rfl, ⟨rfl, ⟨rfl, ⟨rfl, ⟨rfl, trivial⟩⟩⟩⟩⟩⟩⟩) h
          · have c_19 := Classical.not_not.mp c_19
            have h := hA c_19
            clear hA hB
            refine ar_aload_n (j := 0) (q := 100) rfl rfl rfl rfl ?_
            refine ar_getf (v := .ref 142) (q := 103) rfl rfl mk_113 rfl rfl ?_
            refine ar_iload (q := 105) rfl rfl rfl ?_
            refine ar_iload (q := 107) rfl rfl rfl ?_
            obtain ⟨hx_20, h⟩ := h
            obtain ⟨I_21, hI_22⟩ : ∃ z : Nat → Nat → Int32, z = va_up I 142 (upd (I 142) l (I 137 j_3)) := ⟨_, rfl⟩
            have h := h I_21 hI_22
            refine ar_iast (hp2 := am_mk I_21 L) (q := 108) rfl mk_142 (am_inE rfl hx_20 (by decide)) (by rw [am_clT rfl hx_20 (by decide), hI_22]; exact mk_s142) rfl ?_
            refine ar_goto (t := 307) rfl rfl ?_
            refine ar_goto (t := 11) rfl rfl ?_
            exact am_Run.weak (ls' := _) (by exact ⟨rfl, ⟨rfl, ⟨rfl, ⟨rfl, ⟨rfl, ⟨rfl, trivial⟩⟩⟩⟩⟩⟩) h
      · have c_8 := Classical.not_not.mp c_8
        have h := hA c_8
        clear hA hB
        refine ar_iinc (v := (nI l) + (-1)) (ls' := [some (.ref 113), some (.int (nI t)), some (.int (nI k)), some (.int (nI s)), some (.int ((nI l) + (-1))), some (.int (nI (i + 1))), some (.int (I 137 j_3)), none, none]) (q := 68) rfl rfl rfl rfl rfl rfl ?_
        refine ar_aload_n (j := 0) (q := 69) rfl rfl rfl rfl ?_
        refine ar_iload (q := 71) rfl rfl rfl ?_
        refine ar_aload_n (j := 0) (q := 72) rfl rfl rfl rfl ?_
        refine ar_iload (q := 74) rfl rfl rfl ?_
        refine ar_iconst (v := 1) (q := 75) rfl rfl rfl ?_
        refine ar_ib (i := .iadd) (z := ((nI l) + (-1)) + 1) (q := 76) rfl rfl rfl rfl rfl ?_
        refine ar_invv (as := [.int (((nI l) + (-1)) + 1)]) (rest := [.int ((nI l) + (-1)), .ref 113]) (b2 := (0, 0)) (b3 := (0, 0)) (q := 79) rfl rfl rfl rfl mk_113 rfl rfl rfl rfl rfl ?_
        obtain ⟨j_9, hi_10, h⟩ := h
        obtain ⟨hp_11, h⟩ := h
        refine ok_M_closed (by omega) hi_10 hp_11 ?_
        show am_Run am_X0 (am_meth d) 174 R 79 [some (.ref 113), some (.int (nI t)), some (.int (nI k)), some (.int (nI s)), some (.int ((nI l) + (-1))), some (.int (nI (i + 1))), some (.int (I 137 j_3)), none, none] [.long (w_clo (I 143 j_9) (L 144 j_9) (w_tot (I 140 j_9) (L 139 j_9) (L 141 j_9))), .int ((nI l) + (-1)), .ref 113] (am_mk I L, 0, 0)
        refine ar_invv (as := [.int ((nI l) + (-1)), .long (w_clo (I 143 j_9) (L 144 j_9) (w_tot (I 140 j_9) (L 139 j_9) (L 141 j_9)))]) (rest := []) (b2 := (0, 0)) (b3 := (0, 0)) (q := 82) rfl rfl rfl rfl mk_113 rfl rfl rfl rfl rfl ?_
        obtain ⟨j_12, hi_13, h⟩ := h
        obtain ⟨hp_14, h⟩ := h
        refine ok_M_unit (by omega) hi_13 hp_14 ?_
        show am_Run am_X0 (am_meth d) 174 R 82 [some (.ref 113), some (.int (nI t)), some (.int (nI k)), some (.int (nI s)), some (.int ((nI l) + (-1))), some (.int (nI (i + 1))), some (.int (I 137 j_3)), none, none] [] (am_mk I (va_up L 141 (vp_updL (L 141) j_12 (w_un (I 142 j_12) (L 141 j_12) (w_clo (I 143 j_9) (L 144 j_9) (w_tot (I 140 j_9) (L 139 j_9) (L 141 j_9)))))), 0, 0)
        refine ar_goto (t := 307) rfl rfl ?_
        refine ar_goto (t := 11) rfl rfl ?_
        exact am_Run.weak (ls' := _) (by exact ⟨rfl, ⟨rfl, ⟨rfl, ⟨rfl, ⟨rfl, ⟨rfl, trivial⟩⟩⟩⟩⟩⟩) h
    · have c_6 := Classical.not_not.mp c_6
      have h := hA c_6
      clear hA hB
      refine ar_iinc (v := nI (l + 1)) (ls' := [some (.ref 113), some (.int (nI t)), some (.int (nI k)), some (.int (nI s)), some (.int (nI (l + 1))), some (.int (nI (i + 1))), some (.int (I 137 j_3)), none, none]) (q := 49) rfl rfl rfl (nI_1 _) rfl rfl ?_
      refine ar_aload_n (j := 0) (q := 50) rfl rfl rfl rfl ?_
      refine ar_iload (q := 52) rfl rfl rfl ?_
      refine ar_invv (as := [.int (nI (l + 1))]) (rest := []) (b2 := (0, 0)) (b3 := (0, 0)) (q := 55) rfl rfl rfl rfl mk_113 rfl rfl rfl rfl rfl ?_
      obtain ⟨hp_7, h⟩ := h
      refine ok_M_open (by omega) rfl hp_7 ?_
      show am_Run am_X0 (am_meth d) 174 R 55 [some (.ref 113), some (.int (nI t)), some (.int (nI k)), some (.int (nI s)), some (.int (nI (l + 1))), some (.int (nI (i + 1))), some (.int (I 137 j_3)), none, none] [] (am_mk (w_op I (l + 1)) L, 0, 0)
      refine ar_goto (t := 307) rfl rfl ?_
      refine ar_goto (t := 11) rfl rfl ?_
      exact am_Run.weak (ls' := _) (by exact ⟨rfl, ⟨rfl, ⟨rfl, ⟨rfl, ⟨rfl, ⟨rfl, trivial⟩⟩⟩⟩⟩⟩) h
theorem r_M_evaluated_237 {d : Nat} (hd : 2 ≤ d) {R : am_R} {I : Nat → Nat → Int32} {L : Nat → Nat → Int64} {t : Nat} {k : Nat} {s : Nat} {l : Nat} {i : Nat} {v : Int64} (h : t < 30 ∧ ((((nI i) < (I 136 t) → (∃ j_3 : Nat, j_3 < 1800 ∧ ((nI t) * 60) + (nI i) = nI j_3 ∧ (((p_dig (I 137 j_3) = true → (am_Run am_X0 (am_meth d) 174 R 237 [some (.ref 113), some (.int (nI t)), some (.int (nI k)), some (.int (nI s)), some (.int (nI l)), some (.int (nI (i + 1))), none, some (.long ((((10 : Int64) * v) + ((I 137 j_3 : Int32).toInt64)) - (48 : Int64))), none] [] (am_mk I L, 0, 0))) ∧ (¬ (p_dig (I 137 j_3) = true) → ((l < 7) ∧ (am_Run am_X0 (am_meth d) 174 R 11 [some (.ref 113), some (.int (nI t)), some (.int (nI k)), some (.int (nI s)), some (.int (nI l)), some (.int (nI i)), none, none, none] [] (am_mk I (va_up L 141 (vp_updL (L 141) l (w_un (I 142 l) (L 141 l) v))), 0, 0)))))))) ∧ (¬ (nI i) < (I 136 t) → ((l < 7) ∧ (am_Run am_X0 (am_meth d) 174 R 11 [some (.ref 113), some (.int (nI t)), some (.int (nI k)), some (.int (nI s)), some (.int (nI l)), some (.int (nI i)), none, none, none] [] (am_mk I (va_up L 141 (vp_updL (L 141) l (w_un (I 142 l) (L 141 l) v))), 0, 0))))))) : am_Run am_X0 (am_meth d) 174 R 237 [some (.ref 113), some (.int (nI t)), some (.int (nI k)), some (.int (nI s)), some (.int (nI l)), some (.int (nI i)), none, some (.long v), none] [] (am_mk I L, 0, 0) := by
  refine ar_iload (q := 239) rfl rfl rfl ?_
  refine ar_aload_n (j := 0) (q := 240) rfl rfl rfl rfl ?_
  refine ar_getf (v := .ref 136) (q := 243) rfl rfl mk_113 rfl rfl ?_
  refine ar_iload_n (j := 1) (q := 244) rfl rfl rfl rfl ?_
  obtain ⟨hx_1, h⟩ := h
  refine ar_iald (v := I 136 t) (q := 245) rfl mk_136 (am_inE rfl hx_1 (by decide)) (am_clE (n := 30) rfl hx_1 (by decide)) rfl ?_
  obtain ⟨hA, hB⟩ := h
  refine ar_br am_d_ge (t := 299) (q := 248) rfl rfl rfl (fun c_2 => ?_) (fun c_2 => ?_)
  · have h := hB c_2
    clear hA hB
    refine ar_aload_n (j := 0) (q := 300) rfl rfl rfl rfl ?_
    refine ar_iload (q := 302) rfl rfl rfl ?_
    refine ar_lload (q := 304) rfl rfl rfl ?_
    refine ar_invv (as := [.int (nI l), .long v]) (rest := []) (b2 := (0, 0)) (b3 := (0, 0)) (q := 307) rfl rfl rfl rfl mk_113 rfl rfl rfl rfl rfl ?_
    obtain ⟨hp_8, h⟩ := h
    refine ok_M_unit (by omega) rfl hp_8 ?_
    show am_Run am_X0 (am_meth d) 174 R 307 [some (.ref 113), some (.int (nI t)), some (.int (nI k)), some (.int (nI s)), some (.int (nI l)), some (.int (nI i)), none, some (.long v), none] [] (am_mk I (va_up L 141 (vp_updL (L 141) l (w_un (I 142 l) (L 141 l) v))), 0, 0)
    refine ar_goto (t := 11) rfl rfl ?_
    exact am_Run.weak (ls' := _) (by exact ⟨rfl, ⟨rfl, ⟨rfl, ⟨rfl, ⟨rfl, ⟨rfl, trivial⟩⟩⟩⟩⟩⟩) h
  · have c_2 := Classical.not_not.mp c_2
    have h := hA c_2
    clear hA hB
    refine ar_aload_n (j := 0) (q := 249) rfl rfl rfl rfl ?_
    refine ar_aload_n (j := 0) (q := 250) rfl rfl rfl rfl ?_
    refine ar_getf (v := .ref 137) (q := 253) rfl rfl mk_113 rfl rfl ?_
    refine ar_iload_n (j := 1) (q := 254) rfl rfl rfl rfl ?_
    refine ar_bipush (v := 60) (q := 256) rfl rfl rfl ?_
    refine ar_ib (i := .imul) (z := (nI t) * 60) (q := 257) rfl rfl rfl rfl rfl ?_
    refine ar_iload (q := 259) rfl rfl rfl ?_
    refine ar_ib (i := .iadd) (z := ((nI t) * 60) + (nI i)) (q := 260) rfl rfl rfl rfl rfl ?_
    obtain ⟨j_3, hx_4, hi_5, h⟩ := h
    refine ar_bald (v := I 137 j_3) (q := 261) rfl (Or.inl rfl) mk_137 (am_inE hi_5 hx_4 (by decide)) (am_clE (n := 1800) hi_5 hx_4 (by decide)) rfl ?_
    refine ar_invv (as := [.int (I 137 j_3)]) (rest := []) (b2 := (0, 0)) (b3 := (0, 0)) (q := 264) rfl rfl rfl rfl mk_113 rfl rfl rfl rfl rfl ?_
    obtain ⟨hA, hB⟩ := h
    refine ok_M_isDigit (by omega)  (fun c_6 => ?_) (fun c_6 => ?_)
    · have h := hA c_6
      clear hA hB
      show am_Run am_X0 (am_meth d) 174 R 264 [some (.ref 113), some (.int (nI t)), some (.int (nI k)), some (.int (nI s)), some (.int (nI l)), some (.int (nI i)), none, some (.long v), none] [.int 1] (am_mk I L, 0, 0)
      refine ar_b0 am_c_eq (t := 299) (q := 267) rfl rfl rfl (fun c9 => absurd c9 (by decide)) (fun _ => ?_)
      refine ar_ldc2 (v := 10) (q := 270) rfl rfl rfl ?_
      refine ar_lload (q := 272) rfl rfl rfl ?_
      refine ar_lb (i := .lmul) (z := (10 : Int64) * v) (q := 273) rfl rfl rfl rfl rfl rfl ?_
      refine ar_aload_n (j := 0) (q := 274) rfl rfl rfl rfl ?_
      refine ar_getf (v := .ref 137) (q := 277) rfl rfl mk_113 rfl rfl ?_
      refine ar_iload_n (j := 1) (q := 278) rfl rfl rfl rfl ?_
      refine ar_bipush (v := 60) (q := 280) rfl rfl rfl ?_
      refine ar_ib (i := .imul) (z := (nI t) * 60) (q := 281) rfl rfl rfl rfl rfl ?_
      refine ar_iload (q := 283) rfl rfl rfl ?_
      refine ar_ib (i := .iadd) (z := ((nI t) * 60) + (nI i)) (q := 284) rfl rfl rfl rfl rfl ?_
      refine ar_bald (v := I 137 j_3) (q := 285) rfl (Or.inl rfl) mk_137 (am_inE hi_5 hx_4 (by decide)) (am_clE (n := 1800) hi_5 hx_4 (by decide)) rfl ?_
      refine ar_st (i := .i2l) (n := 1) (st' := [.long ((I 137 j_3 : Int32).toInt64), .long ((10 : Int64) * v)]) (q := 286) rfl rfl rfl rfl ?_
      refine ar_lb (i := .ladd) (z := ((10 : Int64) * v) + ((I 137 j_3 : Int32).toInt64)) (q := 287) rfl rfl rfl rfl rfl rfl ?_
      refine ar_ldc2 (v := 48) (q := 290) rfl rfl rfl ?_
      refine ar_lb (i := .lsub) (z := (((10 : Int64) * v) + ((I 137 j_3 : Int32).toInt64)) - (48 : Int64)) (q := 291) rfl rfl rfl rfl rfl rfl ?_
      refine ar_lstore (ls' := [some (.ref 113), some (.int (nI t)), some (.int (nI k)), some (.int (nI s)), some (.int (nI l)), some (.int (nI i)), none, some (.long ((((10 : Int64) * v) + ((I 137 j_3 : Int32).toInt64)) - (48 : Int64))), none]) (q := 293) rfl rfl rfl rfl ?_
      refine ar_iinc (v := nI (i + 1)) (ls' := [some (.ref 113), some (.int (nI t)), some (.int (nI k)), some (.int (nI s)), some (.int (nI l)), some (.int (nI (i + 1))), none, some (.long ((((10 : Int64) * v) + ((I 137 j_3 : Int32).toInt64)) - (48 : Int64))), none]) (q := 296) rfl rfl rfl (nI_1 _) rfl rfl ?_
      refine ar_goto (t := 237) rfl rfl ?_
      exact am_Run.weak (ls' := _) (by exact ⟨rfl, ⟨rfl, ⟨rfl, ⟨rfl, ⟨rfl, ⟨rfl, ⟨rfl, trivial⟩⟩⟩⟩⟩⟩⟩) h
    · have h := hB c_6
      clear hA hB
      show am_Run am_X0 (am_meth d) 174 R 264 [some (.ref 113), some (.int (nI t)), some (.int (nI k)), some (.int (nI s)), some (.int (nI l)), some (.int (nI i)), none, some (.long v), none] [.int 0] (am_mk I L, 0, 0)
      refine ar_b0 am_c_eq (t := 299) (q := 267) rfl rfl rfl (fun _ => ?_) (fun c9 => absurd (by decide) c9)
      refine ar_aload_n (j := 0) (q := 300) rfl rfl rfl rfl ?_
      refine ar_iload (q := 302) rfl rfl rfl ?_
      refine ar_lload (q := 304) rfl rfl rfl ?_
      refine ar_invv (as := [.int (nI l), .long v]) (rest := []) (b2 := (0, 0)) (b3 := (0, 0)) (q := 307) rfl rfl rfl rfl mk_113 rfl rfl rfl rfl rfl ?_
      obtain ⟨hp_7, h⟩ := h
      refine ok_M_unit (by omega) rfl hp_7 ?_
      show am_Run am_X0 (am_meth d) 174 R 307 [some (.ref 113), some (.int (nI t)), some (.int (nI k)), some (.int (nI s)), some (.int (nI l)), some (.int (nI i)), none, some (.long v), none] [] (am_mk I (va_up L 141 (vp_updL (L 141) l (w_un (I 142 l) (L 141 l) v))), 0, 0)
      refine ar_goto (t := 11) rfl rfl ?_
      exact am_Run.weak (ls' := _) (by exact ⟨rfl, ⟨rfl, ⟨rfl, ⟨rfl, ⟨rfl, ⟨rfl, trivial⟩⟩⟩⟩⟩⟩) h
