/-- what a call's plain answer is worth: a method of Math or arraycopy, or a contract -/
def am_Calls (l : Launch) (base : Nat) (ea : Nat → Nat) (D : va_G) (d : Nat) (call : am_Fn) : Prop := ∀ (k : Nat) (as : List Value) (hp : List am_C) (R : am_R), (k < am_nM ∨ k = am_acp) → call k as (hp, am_bc k, am_bs k) R → (am_isp k = true ∧ am_pr (am_prim k as (hp, am_bc k, am_bs k)) R) ∨ (am_isp k = false ∧ am_MetS l base ea D d k as (hp, am_bc k, am_bs k) R)
def am_Codes : Prop := ∀ k, k < am_nM → Cond.code (am_y k) (am_by k) (am_ml k) (am_rt k) ∈ am_TB
theorem am_good {ws : List Cond} (h : ∀ w ∈ ws, w ∈ am_TB) : GoodIn am_TB ws := fun w hw => ⟨h w hw, good_of_word (List.mem_filter.mp (h w hw)).2⟩
theorem am_k_mk : (List.range am_nM).all (fun k => (!(decide (am_own k = am_cmath)) || decide (am_kd k = 1)) && decide (am_ml k ≤ 40)) = true := by decide +kernel
theorem am_ml_le {k : Nat} (h : k < am_nM) : am_ml k ≤ 40 := by
  have := List.all_eq_true.mp am_k_mk k (List.mem_range.mpr h)
  simp only [Bool.and_eq_true, decide_eq_true_eq] at this
  exact this.2
theorem am_k_acp : am_kd am_acp = 1 := by decide +kernel
theorem am_isp_kd {k : Nat} (h : k < am_nM ∨ k = am_acp) (hp : am_isp k = true) : am_kd k = 1 := by
  simp only [am_isp, Bool.or_eq_true, decide_eq_true_eq] at hp
  rcases hp with hp | hp
  · rw [hp]; exact am_k_acp
  · rcases h with h | h
    · have := List.all_eq_true.mp am_k_mk k (List.mem_range.mpr h)
      simp only [Bool.and_eq_true, Bool.or_eq_true, Bool.not_eq_true', decide_eq_false_iff_not, decide_eq_true_eq] at this
      rcases this.1 with q | q
      · exact absurd hp q
      · exact q
    · rw [h]; exact am_k_acp
theorem am_mth_ok {own idx k : Nat} (ho : own < am_nC) (h : am_mth own idx = some k) : (k < am_nM ∨ k = am_acp) ∧ (Cond.methodLink (am_cn own) idx (am_y k) ∈ am_TB ∨ (own = 0 ∧ am_kd k = 2 ∧ (idx, k) ∈ am_nst)) := by
  unfold am_mth at h
  split at h
  · rename_i q hq
    cases h
    have h1 := am_all2 am_k_l ho (am_lk hq)
    simp only [Bool.and_eq_true, Bool.or_eq_true, decide_eq_true_eq, List.contains_iff_mem] at h1
    refine ⟨h1.1, ?_⟩
    rcases h1.2 with q | q
    · exact Or.inl (am_ok_mem q)
    · exact Or.inr ⟨q.1.1, q.1.2, q.2⟩
  · cases h
theorem am_mok_of {k : Nat} (h : k < am_nM) : am_mok k = true := by
  have key : ∀ a : Nat, (List.range' a 43).all am_mok = true → a ≤ k → k < a + 43 → am_mok k = true := fun a ha h1 h2 => List.all_eq_true.mp ha k (List.mem_range'_1.mpr ⟨h1, h2⟩)
  have h : k < 258 := h
  rcases Nat.lt_or_ge k 43 with q | q
  · exact key 0 am_k_m0 (by omega) (by omega)
  rcases Nat.lt_or_ge k 86 with q | q
  · exact key 43 am_k_m1 (by omega) (by omega)
  rcases Nat.lt_or_ge k 129 with q | q
  · exact key 86 am_k_m2 (by omega) (by omega)
  rcases Nat.lt_or_ge k 172 with q | q
  · exact key 129 am_k_m3 (by omega) (by omega)
  rcases Nat.lt_or_ge k 215 with q | q
  · exact key 172 am_k_m4 (by omega) (by omega)
  · exact key 215 am_k_m5 (by omega) (by omega)
theorem am_mw {k : Nat} (h : k < am_nM) : (am_kd k = 1 → Cond.static (am_y k) ∈ am_TB) ∧ (am_kd k ≠ 1 → Cond.instanceMethod (am_y k) ∈ am_TB) ∧ (am_kd k = 0 → Cond.selects (am_cn (am_own k)) (am_y k) (am_y k) ∈ am_TB) ∧ Cond.initialized (am_cn (am_own k)) ∈ am_TB := by
  have h1 := am_mok_of h
  simp only [am_mok, Bool.and_eq_true, Bool.or_eq_true, Bool.not_eq_true', decide_eq_false_iff_not] at h1
  refine ⟨fun q => ?_, fun q => ?_, fun q => ?_, am_ok_mem h1.2⟩
  · have := am_ok_mem h1.1.1
    rw [if_pos q] at this
    exact this
  · have := am_ok_mem h1.1.1
    rw [if_neg q] at this
    exact this
  · rcases h1.1.2 with z | z
    · exact absurd q z
    · exact am_ok_mem z
theorem am_mn {k : Nat} (h : k < am_nM) : (plainName (am_cn (am_own k)) = true ∨ am_own k = am_cmath) ∧ ((am_y k).cls ≠ "java/lang/invoke/MethodHandle" ∧ (am_y k).cls ≠ "java/lang/invoke/VarHandle" ∧ (parseMethodDescriptor (am_y k).desc).map (fun d => d.parameters.length) = some (am_na k)) ∧ (am_kd k = 2 ↔ (am_y k).name = "<init>") ∧ am_own k < am_nC ∧ (am_kd k = 2 → am_rt k = none) ∧ (am_kd k = 0 → am_own k < am_nO ∨ am_own k = am_str) := by
  have h1 := List.all_eq_true.mp am_k_n k (List.mem_range.mpr h)
  simp only [am_mok2, Bool.and_eq_true, Bool.or_eq_true, Bool.not_eq_true', decide_eq_false_iff_not, decide_eq_true_eq] at h1
  obtain ⟨⟨⟨⟨⟨⟨⟨a1, a2⟩, a3⟩, a4⟩, a5⟩, a6⟩, a7⟩, a8⟩ := h1
  refine ⟨a1, ⟨a2, a3, a4⟩, a5, a6, fun q => ?_, fun q => ?_⟩
  · rcases a7 with z | z
    · exact absurd q z
    · exact z
  · rcases a8 with z | z
    · exact absurd q z
    · exact z
theorem am_adrA {s : State} {A : Nat → Prop} {adr : List Nat} {ea : Nat → Nat} {hp : List am_C} {ws : va_W} (h1 : am_w s adr ea hp ws) (h3 : va_D A ws) : ∀ q ∈ adr, A q := by
  intro q hq
  obtain ⟨i, hi⟩ := List.getElem?_of_mem hq
  have hl : i < hp.length := by rw [← h1.1]; exact (List.getElem?_eq_some_iff.mp hi).1
  obtain ⟨a, e, g1, g2, -⟩ := h1.2.2 i _ (List.getElem?_eq_getElem hl)
  rw [hi] at g1
  cases g1
  exact h3.2 i _ g2
theorem am_after {p : Program} {l : Launch} {e : Env} {Rm : Room} {s : State} {m : MethodId} {args : Array Value} {below : List Frame} {meth : Method} {c : Code} {Q : State → Prop} {D : va_G} {A : Nat → Prop} {ea : Nat → Nat} {nL : Nat} {adr0 : List Nat} {pc : Nat} {ls : am_L} {st : List Value} {mem : am_M} {H : Heap} {locs : List Loc} {cells slots : Nat} {jl : Array Slot} {js : List Value} {adr : List Nat} {ws : va_W} {k : Nat} {X : am_X} {base : Nat} {k2 : Nat} {R2 : am_R} {rest jrest js0 : List Value} {a : Array Value} (F : am_Fx p s m args meth c Rm k X base ea A D) (hJ : am_J s D A ea nL Rm adr0 ls st mem H locs cells slots jl js adr ws) (hrest : am_vs adr ea rest jrest) (hr : va_Run p l e Rm s m args below meth c H locs cells slots (am_bc k2) (am_bs k2) (F0 m pc jl js0) jrest (am_Out base ea D adr H.size R2 a) (am_A adr H.size)) (hb1 : am_bc k2 ≤ mem.2.1) (hb2 : am_bs k2 ≤ mem.2.2) (hk : ∀ (v : Option Value) (m2 : am_M), R2 v m2 → (am_Sim p l e Rm s m args below meth c Q D A ea nL adr0) (pc + 3) ls (v.toList ++ rest) (m2.1, mem.2.1 - am_bc k2, mem.2.2 - am_bs k2)) : W p l e Rm s m args below meth c H locs cells slots Q (F0 m pc jl js0) := by
  obtain ⟨h0, h1, h2, h3, h4, h5, h6, h7, h8⟩ := hJ
  obtain ⟨hx, -, hown, hts, hK, hA, hG, hbs, hex, hsx, hin2, -, hoC, -⟩ := F
  intro T hT X9
  obtain ⟨v, st0, t, T', L, e0, X', hL, e1, e2, ⟨⟨v', w, mem', adr2, ws2, hv, hR, hpx, hov, hw2, hP2, hD2⟩, hF⟩, st⟩ := hr T hT X9
  cases hv
  have ha : s.vm.Alike t.vm := by rw [← e2]; exact X'.warmed.alike
  have hAA : ∀ q, am_A adr H.size q → A q := fun q hq => by
    rcases hq with hq | hq
    · exact am_adrA h1 h3 q hq
    · exact hA q (Nat.le_trans h4.1 hq)
  have hz : H.size ≤ t.heap.size := by have := hF.1; rw [e0] at this; exact this
  have hkp : ∀ q : Nat, q < H.size → ¬ am_A adr H.size q → t.heap[q]? = H[q]? := fun q hq1 hq2 => by have := hF.2 q (by rw [e0]; exact hq1) hq2; rw [e0] at this; exact this
  obtain ⟨t2, a1, b1⟩ := hk v' mem' hR T'.heap (locs ++ L) (cells + am_bc k2) (slots + am_bs k2) jl (v.toList ++ jrest) adr2 ws2 ⟨h0.trans hpx, hw2.moved ha.symm, by rw [e1]; exact hP2, hD2.weaken (fun _ _ _ h => hAA _ h), ⟨by rw [e1]; exact Nat.le_trans h4.1 hz, fun q hq1 hq2 => by rw [e1, hkp q (Nat.lt_of_lt_of_le hq1 h4.1) (fun z => hq2 (hAA q z))]; exact h4.2.1 q hq1 hq2, fun q hq => by
      rcases List.mem_append.mp hq with hq | hq
      · exact h4.2.2 q hq
      · exact hAA _ (hL q hq)⟩, h5.px hpx, hov.app (hrest.px hpx), by
      show cells + am_bc k2 + (mem.2.1 - am_bc k2) ≤ Rm.cells
      omega, by
      show slots + am_bs k2 + (mem.2.2 - am_bs k2) ≤ Rm.slots
      omega⟩ T' rfl X'
  exact ⟨t2, st t2 a1, b1⟩
theorem am_pre {p : Program} {Rm : Room} {s : State} {m : MethodId} {args : Array Value} {meth : Method} {c : Code} {D : va_G} {A : Nat → Prop} {ea : Nat → Nat} {nL : Nat} {adr0 : List Nat} {ls : am_L} {st : List Value} {mem : am_M} {H : Heap} {locs : List Loc} {cells slots : Nat} {jl : Array Slot} {js : List Value} {adr : List Nat} {ws : va_W} {k : Nat} {X : am_X} {base : Nat} {jas : List Value} (F : am_Fx p s m args meth c Rm k X base ea A D) (hJ : am_J s D A ea nL Rm adr0 ls st mem H locs cells slots jl js adr ws) : ∀ U : State, U.heap = H → s.WarmedH U.vm → va_Pc jas (fun U => U.heap.size = H.size ∧ am_In base ea D adr mem.1 U) jas.toArray U := by
  obtain ⟨h0, h1, h2, h3, h4, h5, h6, h7, h8⟩ := hJ
  obtain ⟨hx, -, hown, hts, hK, hA, hG, hbs, hex, hsx, hin2, -, hoC, -⟩ := F
  intro U hU hW
  have ha : s.vm.Alike U.vm := hW.alike
  refine ⟨rfl, by rw [hU], by rw [hU]; exact Nat.le_trans hbs h4.1, fun q hq => hG q (am_adrA h1 h3 q hq), ⟨ws, h1.moved ha, by rw [hU]; exact h2, h3.weaken (fun _ _ _ _ => trivial)⟩, va_K.moved ha hK, am_ex.warm hW (fun q hq1 hq2 => ?_) hex⟩
  rw [hU]
  exact h4.2.1 q hq1 (fun z => hq2 (hG q z))
theorem sm_invv {p : Program} {l : Launch} {e : Env} {Rm : Room} {s : State} {m : MethodId} {args : Array Value} {below : List Frame} {meth : Method} {c : Code} {Q : State → Prop} {D : va_G} {A : Nat → Prop} {ea : Nat → Nat} {nL : Nat} {adr0 : List Nat} {call : am_Fn} {R : am_R} {pc : Nat} {ls : am_L} {st : List Value} {mem : am_M} {H : Heap} {locs : List Loc} {cells slots : Nat} {jl : Array Slot} {js : List Value} {adr : List Nat} {ws : va_W} {k : Nat} {X : am_X} {base : Nat} {cc : ByteArray} {d idx : Nat} (F : am_Fx p s m args meth c Rm k X base ea A D) (hC : am_Calls l base ea D d call) (hcd : am_Codes) (hRm : d + 2 ≤ Rm.frames ∧ 60 * (d + 1) + 60 ≤ Rm.locals) (hnL : nL = am_ml k) (hb : c.code = cc) (hd : decode cc pc = .ok (.invokevirtual idx, 3)) (h : am_do call (am_invv (am_own k) idx (pc + 3) ls st mem) (am_Sim p l e Rm s m args below meth c Q D A ea nL adr0) R) (hJ : am_J s D A ea nL Rm adr0 ls st mem H locs cells slots jl js adr ws)  : W p l e Rm s m args below meth c H locs cells slots Q (F0 m pc jl js) := by
  have hJ0 := hJ
  have F0x := F
  obtain ⟨h0, h1, h2, h3, h4, h5, h6, h7, h8⟩ := hJ
  obtain ⟨hx, -, hown, hts, hK, hA, hG, hbs, hex, hsx, hin2, hml, hoC, -⟩ := F
  unfold am_invv at h
  split at h
  · rename_i k2 hm
    obtain ⟨m1, m2⟩ := am_mth_ok hoC hm
    have hsd := h6.drop (am_na k2)
    have hst := (h6.take (am_na k2)).rev
    split at h
    · rename_i b rest hdrop
      rw [hdrop] at hsd
      obtain ⟨w2, jrest, e3, ⟨ad, e4, e6⟩, e5⟩ := hsd
      subst e6
      split at h
      · rename_i ci fs hcell
        split at h
        · rename_i hc
          simp only [Bool.and_eq_true, decide_eq_true_eq] at hc
          unfold am_cal at h
          split at h
          · rename_i hc2
            simp only [Bool.and_eq_true, decide_eq_true_eq] at hc2
            have hnm : k2 < am_nM := by
              rcases m1 with q | q
              · exact q
              · rw [q] at hc; exact absurd (am_k_acp.symm.trans hc.1) (by decide)
            have hml2 : Cond.methodLink (am_cn (am_own k)) idx (am_y k2) ∈ am_TB := by
              rcases m2 with q | q
              · exact q
              · exact absurd (hc.1.symm.trans q.2.1) (by decide)
            rcases hC k2 _ _ _ m1 h with ⟨q1, -⟩ | ⟨q1, hM⟩
            · exact absurd (hc.1.symm.trans (am_isp_kd m1 q1)) (by decide)
            obtain ⟨a', e', z1, z2, z3, gs, z4, z5, z6⟩ := h1.2.2 b _ hcell
            rw [e4] at z1
            cases z1
            subst z4
            obtain ⟨y1, y2, y3, y4⟩ := am_mw hnm
            obtain ⟨x1, x2, x3, x4, x5, x6⟩ := am_mn hnm
            have hjs : js = (js.take (am_na k2)).reverse.reverse ++ .ref ad :: jrest := by
              rw [List.reverse_reverse, ← e3, List.take_append_drop]
            have hlen : (js.take (am_na k2)).reverse.length = am_na k2 := by
              rw [List.length_reverse, List.length_take]
              have : (js.drop (am_na k2)).length = jrest.length + 1 := by rw [e3]; rfl
              rw [List.length_drop] at this
              omega
            have hMM := hM adr (.ref ad :: (js.take (am_na k2)).reverse) H.size ⟨_, _, rfl, ⟨ad, e4, rfl⟩, hst⟩
            refine am_after F0x hJ0 e5 (va_runV (As := (js.take (am_na k2)).reverse) (rest := jrest) (b := ad) (C := am_cn (am_own k2)) ⟨hx, hb, hml, hown, hts⟩ hMM (cwV (am_na k2) (ws' := am_TB) hts (am_good (fun w hw => ?_)) rfl rfl rfl ⟨rfl, x2⟩ ⟨hRm.1, ?_⟩) ⟨am_blind, ?_, am_pre (mem := mem) F0x hJ0⟩ rfl hlen (by rw [← hnL]; exact h5.2.1) hjs (lv_room (by rw [e5.cat]; exact hc2.1.1)) hd ⟨by omega, by omega⟩) hc2.1.2 hc2.2 (fun v m2 hv => hv)
            · simp only [wsV, List.cons_append, List.nil_append, List.mem_cons] at hw
              rcases hw with rfl | rfl | rfl | rfl | hw
              · exact hml2
              · exact y2 (by rw [hc.1]; decide)
              · exact y3 hc.1
              · exact y4
              · rcases List.mem_cons.mp hw with rfl | hw
                · exact hcd k2 hnm
                · exact hw
            · show 8 + (am_ml k2 + 11) + 60 * (d + 1) ≤ Rm.locals
              have := am_ml_le hnm
              omega
            · have hr := va_recv hK h2 (am_cls_at z3) z2
              rw [hc.2] at hr
              exact hr
          · exact h.elim
        · exact h.elim
      · exact h.elim
    · rename_i u rest hdrop
      rw [hdrop] at hsd
      obtain ⟨w2, jrest, e3, e4, e5⟩ := hsd
      have e4 : w2 = .ref (ea u.toNat) := e4
      subst e4
      split at h
      · rename_i hc
        simp only [Bool.and_eq_true, decide_eq_true_eq] at hc
        obtain ⟨⟨hu, hc1⟩, hcs⟩ := hc
        subst hu
        unfold am_cal at h
        split at h
        · rename_i hc2
          simp only [Bool.and_eq_true, decide_eq_true_eq] at hc2
          have hnm : k2 < am_nM := by
            rcases m1 with q | q
            · exact q
            · rw [q] at hc1; exact absurd (am_k_acp.symm.trans hc1) (by decide)
          have hml2 : Cond.methodLink (am_cn (am_own k)) idx (am_y k2) ∈ am_TB := by
            rcases m2 with q | q
            · exact q
            · exact absurd (hc1.symm.trans q.2.1) (by decide)
          rcases hC k2 _ _ _ m1 h with ⟨q1, -⟩ | ⟨q1, hM⟩
          · exact absurd (hc1.symm.trans (am_isp_kd m1 q1)) (by decide)
          obtain ⟨y1, y2, y3, y4⟩ := am_mw hnm
          obtain ⟨x1, x2, x3, x4, x5, x6⟩ := am_mn hnm
          have hjs : js = (js.take (am_na k2)).reverse.reverse ++ .ref (ea 2) :: jrest := by
            have q := List.take_append_drop (am_na k2) js
            rw [e3] at q
            rw [List.reverse_reverse]
            exact q.symm
          have hlen : (js.take (am_na k2)).reverse.length = am_na k2 := by
            rw [List.length_reverse, List.length_take]
            have : (js.drop (am_na k2)).length = jrest.length + 1 := by rw [e3]; rfl
            rw [List.length_drop] at this
            omega
          have hMM := hM adr (.ref (ea 2) :: (js.take (am_na k2)).reverse) H.size ⟨_, _, rfl, rfl, hst⟩
          refine am_after F0x hJ0 e5 (va_runV (As := (js.take (am_na k2)).reverse) (rest := jrest) (b := ea 2) (C := am_cn (am_own k2)) ⟨hx, hb, hml, hown, hts⟩ hMM (cwV (am_na k2) (ws' := am_TB) hts (am_good (fun w hw => ?_)) rfl rfl rfl ⟨rfl, x2⟩ ⟨hRm.1, ?_⟩) ⟨am_blind, ?_, am_pre (mem := mem) F0x hJ0⟩ rfl hlen (by rw [← hnL]; exact h5.2.1) hjs (lv_room (by rw [e5.cat]; exact hc2.1.1)) hd ⟨by omega, by omega⟩) hc2.1.2 hc2.2 (fun v m2 hv => hv)
          · simp only [wsV, List.cons_append, List.nil_append, List.mem_cons] at hw
            rcases hw with rfl | rfl | rfl | rfl | hw
            · exact hml2
            · exact y2 (by rw [hc1]; decide)
            · exact y3 hc1
            · exact y4
            · rcases List.mem_cons.mp hw with rfl | hw
              · exact hcd k2 hnm
              · exact hw
          · show 8 + (am_ml k2 + 11) + 60 * (d + 1) ≤ Rm.locals
            have := am_ml_le hnm
            omega
          · rw [hcs]
            exact vk_recv (adK := fun _ => ea 2) (i := 0) (vk_S.narrow hex.2.2.2.1 hG) Nat.zero_lt_one h4
        · exact h.elim
      · exact h.elim
    · exact h.elim
  · exact h.elim
