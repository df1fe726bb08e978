theorem am_ao {ty : FieldType} {A : Array Value} {s : State} (h : (Cond.arrayOver ty).before #[] s = true) : (Cond.arrayOver ty).before A s = true := h
theorem am_k_df : ∀ ci, ci < am_nO → ∀ j, j < am_N ci → defaultValue (am_T ci j) = vp_V (am_df ci) j := by decide +kernel
theorem am_vs_df (adr : List Nat) (ea : Nat → Nat) : ∀ l : List FieldType, am_vs adr ea (l.map (fun t => match t with
    | .int => Value.int 0
    | _ => .null)) (l.map (fun t => match t with
    | .int => Value.int 0
    | _ => .null))
  | [] => rfl
  | t :: l => ⟨_, _, rfl, by cases t <;> rfl, am_vs_df adr ea l⟩
theorem am_df_len (ci : Nat) : (am_df ci).length = am_N ci := by
  unfold am_df am_N
  rw [List.length_map]
theorem am_D_add {A : Nat → Prop} {ws es : va_W} {h : Nat} (hD : va_D A ws) (h1 : ∀ (k : Nat) (q : Nat × va_E), ws[k]? = some q → q.1 < h) (h2 : ∀ (k : Nat) (q : Nat × va_E), es[k]? = some q → q.1 = h + k) (hA : ∀ q : Nat, h ≤ q → A q) : va_D A (ws ++ es) := by
  refine va_D.app hD ⟨fun i j x y hi hj hxy => ?_, fun k q hk => hA _ (by rw [h2 k q hk]; omega)⟩ (fun i j x y hi hj hxy => ?_)
  · have := h2 i x hi
    have := h2 j y hj
    omega
  · have := h1 i x hi
    have := h2 j y hj
    omega
theorem am_outer (c : ClassId) (N h0 : Nat) : ∀ i : Nat, Jvm.Free.Multi.outerC c N h0 i = arrV c N (fun j => va_rf (if j < i then some (h0 + 1 + j) else none))
  | 0 => by
    refine (arrV_new c N .null).trans ?_
    refine congrArg (arrV c N) (funext fun j => ?_)
    simp [va_rf]
  | i + 1 => by
    show (Jvm.Free.Multi.outerC c N h0 i).setSlot i (.ref (h0 + 1 + i)) = _
    rw [am_outer c N h0 i, arrV_store]
    refine congrArg (arrV c N) (funext fun j => ?_)
    unfold updV
    by_cases e : j = i
    · subst e
      rw [if_pos rfl, if_pos (Nat.lt_succ_self j)]
      rfl
    · rw [if_neg e]
      dsimp only
      by_cases h : j < i
      · rw [if_pos h, if_pos (Nat.lt_succ_of_lt h)]
      · rw [if_neg h, if_neg (by omega)]
theorem sm_new {p : Program} {l : Launch} {e : Env} {Rm : Room} {s : State} {m : MethodId} {args : Array Value} {below : List Frame} {meth : Method} {c : Code} {Q : State → Prop} {D : va_G} {A : Nat → Prop} {ea : Nat → Nat} {nL : Nat} {adr0 : List Nat} {call : am_Fn} {R : am_R} {pc : Nat} {ls : am_L} {st : List Value} {mem : am_M} {H : Heap} {locs : List Loc} {cells slots : Nat} {jl : Array Slot} {js : List Value} {adr : List Nat} {ws : va_W} {k : Nat} {X : am_X} {base : Nat} {cc : ByteArray} {idx : Nat} (F : am_Fx p s m args meth c Rm k X base ea A D) (hb : c.code = cc) (hd : decode cc pc = .ok (.new idx, 3)) (h : am_do call (am_new (am_own k) idx (pc + 3) ls st mem) (am_Sim p l e Rm s m args below meth c Q D A ea nL adr0) R) (hJ : am_J s D A ea nL Rm adr0 ls st mem H locs cells slots jl js adr ws)  : W p l e Rm s m args below meth c H locs cells slots Q (F0 m pc jl js) := by
  obtain ⟨h0, h1, h2, h3, h4, h5, h6, h7, h8⟩ := hJ
  obtain ⟨hx, -, hown, hts, hK, hA, hG, hbs, hex, hsx, hin2, -, hoC, -⟩ := F
  unfold am_new at h
  split at h
  · rename_i ci hf
    obtain ⟨z1, z2⟩ := am_nw_ok hoC hf
    split at h
    · rename_i hc
      simp only [Bool.and_eq_true, decide_eq_true_eq] at hc
      obtain ⟨y1, y2, y3⟩ := am_cok_of z1
      refine va_new (C := am_cn ci) (T := am_F ci) (N := am_N ci) (ci := ci) (fs := am_df ci) hx hb hts (am_uws z1) (am_T ci) (fun k hk => (y3 k hk).2.1) hown (hts _ z2) (hts _ y1) (hts _ y2) hK h2 h3 h4 hA (am_cls_at z1) (am_k_df ci z1) (by omega) (by omega) hd (fun q H1 p2 p3 p4 => ?_)
      have hpx : adr <+: adr ++ [q] := List.prefix_append _ _
      refine h _ _ _ _ _ _ (adr ++ [q]) _ ⟨h0.trans hpx, h1.add (as := [q]) (cs := [.inr (.inr (.inr (ci, am_df ci)))]) (es := [(q, .inr (ci, am_df ci))]) rfl rfl (fun j cj hj => ?_), p2, p3, p4, h5.px hpx, ⟨_, _, rfl, ⟨q, ?_, rfl⟩, h6.px hpx⟩, ?_, ?_⟩
      · cases j with
        | zero =>
          simp only [List.getElem?_cons_zero, Option.some.injEq] at hj
          subst hj
          exact ⟨q, _, rfl, rfl, z1, am_df ci, rfl, am_df_len ci, am_vs_df _ _ _⟩
        | succ j => simp at hj
      · rw [← h1.1]
        simp
      · show cells + 1 + (mem.2.1 - 1) ≤ Rm.cells
        omega
      · show slots + am_N ci + (mem.2.2 - am_N ci) ≤ Rm.slots
        omega
    · exact h.elim
  · exact h.elim
theorem sm_newa {p : Program} {l : Launch} {e : Env} {Rm : Room} {s : State} {m : MethodId} {args : Array Value} {below : List Frame} {meth : Method} {c : Code} {Q : State → Prop} {D : va_G} {A : Nat → Prop} {ea : Nat → Nat} {nL : Nat} {adr0 : List Nat} {call : am_Fn} {R : am_R} {pc : Nat} {ls : am_L} {st : List Value} {mem : am_M} {H : Heap} {locs : List Loc} {cells slots : Nat} {jl : Array Slot} {js : List Value} {adr : List Nat} {ws : va_W} {k : Nat} {X : am_X} {base : Nat} {cc : ByteArray} {t : ArrayType} (F : am_Fx p s m args meth c Rm k X base ea A D) (hb : c.code = cc) (hd : decode cc pc = .ok (.newarray t, 2)) (h : am_do call (am_newa t (pc + 2) ls st mem) (am_Sim p l e Rm s m args below meth c Q D A ea nL adr0) R) (hJ : am_J s D A ea nL Rm adr0 ls st mem H locs cells slots jl js adr ws)  : W p l e Rm s m args below meth c H locs cells slots Q (F0 m pc jl js) := by
  obtain ⟨h0, h1, h2, h3, h4, h5, h6, h7, h8⟩ := hJ
  obtain ⟨hx, -, hown, hts, hK, hA, hG, hbs, hex, hsx, hin2, -, hoC, -⟩ := F
  unfold am_newa at h
  split at h
  · rename_i n st2
    obtain ⟨w2, l2, e3, e4, e5⟩ := h6
    have e4 : w2 = .int n := e4
    subst e4; subst e3
    split at h
    rotate_left
    · exact h.elim
    rename_i hc
    simp only [Bool.and_eq_true, decide_eq_true_eq, Bool.not_eq_true', decide_eq_false_iff_not] at hc
    split at h
    · have hK1 : (Cond.arrayClass .int).before args s = true := hts _ (am_ok_mem (by have := am_k_ar; simp only [Bool.and_eq_true] at this; exact this.1.1.1))
      refine va_newa (atype := .int) (ty := .int) (a0 := (n.toNatClampNeg, .inl (fun _ => 0))) hx hb hK1 rfl hK h2 h3 h4 hA (fun _ => rfl) hc.1.1.1 rfl (Nat.le_trans (Nat.mul_le_mul_right _ hc.1.1.2) (by decide)) (by omega) (by omega) hd (fun q cA H1 p1 p2 p3 p4 => ?_)
      have hpx : adr <+: adr ++ [q] := List.prefix_append _ _
      have hAr := p1.2 0 (cA, .int) rfl
      refine h _ _ _ _ _ _ (adr ++ [q]) _ ⟨h0.trans hpx, h1.add (as := [q]) (cs := [.inl (0, n.toNatClampNeg, fun _ => 0)]) (es := [(q, .inl (cA, (n.toNatClampNeg, .inl (fun _ => 0))))]) rfl rfl (fun j cj hj => ?_), p2, p3, p4, h5.px hpx, ⟨_, _, rfl, ⟨q, ?_, rfl⟩, e5.px hpx⟩, ?_, ?_⟩
      · cases j with
        | zero =>
          simp only [List.getElem?_cons_zero, Option.some.injEq] at hj
          subst hj
          exact ⟨q, _, rfl, rfl, cA, rfl, hAr.1, hAr.2⟩
        | succ j => simp at hj
      · rw [← h1.1]
        simp
      · show cells + 1 + (mem.2.1 - 1) ≤ Rm.cells
        omega
      · show slots + n.toNatClampNeg + (mem.2.2 - n.toNatClampNeg) ≤ Rm.slots
        omega
    · have hK1 : (Cond.arrayClass .byte).before args s = true := hts _ (am_ok_mem (by have := am_k_ar; simp only [Bool.and_eq_true] at this; exact this.1.1.2))
      refine va_newa (atype := .byte) (ty := .byte) (a0 := (n.toNatClampNeg, .inl (fun _ => 0))) hx hb hK1 rfl hK h2 h3 h4 hA (fun _ => rfl) hc.1.1.1 rfl (Nat.le_trans (Nat.mul_le_mul_right _ hc.1.1.2) (by decide)) (by omega) (by omega) hd (fun q cA H1 p1 p2 p3 p4 => ?_)
      have hpx : adr <+: adr ++ [q] := List.prefix_append _ _
      have hAr := p1.2 0 (cA, .byte) rfl
      refine h _ _ _ _ _ _ (adr ++ [q]) _ ⟨h0.trans hpx, h1.add (as := [q]) (cs := [.inl (1, n.toNatClampNeg, fun _ => 0)]) (es := [(q, .inl (cA, (n.toNatClampNeg, .inl (fun _ => 0))))]) rfl rfl (fun j cj hj => ?_), p2, p3, p4, h5.px hpx, ⟨_, _, rfl, ⟨q, ?_, rfl⟩, e5.px hpx⟩, ?_, ?_⟩
      · cases j with
        | zero =>
          simp only [List.getElem?_cons_zero, Option.some.injEq] at hj
          subst hj
          exact ⟨q, _, rfl, rfl, cA, rfl, hAr.1, hAr.2⟩
        | succ j => simp at hj
      · rw [← h1.1]
        simp
      · show cells + 1 + (mem.2.1 - 1) ≤ Rm.cells
        omega
      · show slots + n.toNatClampNeg + (mem.2.2 - n.toNatClampNeg) ≤ Rm.slots
        omega
    · have hK1 : (Cond.arrayClass .boolean).before args s = true := hts _ (am_ok_mem (by have := am_k_ar; simp only [Bool.and_eq_true] at this; exact this.1.2))
      refine va_newa (atype := .boolean) (ty := .boolean) (a0 := (n.toNatClampNeg, .inl (fun _ => 0))) hx hb hK1 rfl hK h2 h3 h4 hA (fun _ => rfl) hc.1.1.1 rfl (Nat.le_trans (Nat.mul_le_mul_right _ hc.1.1.2) (by decide)) (by omega) (by omega) hd (fun q cA H1 p1 p2 p3 p4 => ?_)
      have hpx : adr <+: adr ++ [q] := List.prefix_append _ _
      have hAr := p1.2 0 (cA, .boolean) rfl
      refine h _ _ _ _ _ _ (adr ++ [q]) _ ⟨h0.trans hpx, h1.add (as := [q]) (cs := [.inl (2, n.toNatClampNeg, fun _ => 0)]) (es := [(q, .inl (cA, (n.toNatClampNeg, .inl (fun _ => 0))))]) rfl rfl (fun j cj hj => ?_), p2, p3, p4, h5.px hpx, ⟨_, _, rfl, ⟨q, ?_, rfl⟩, e5.px hpx⟩, ?_, ?_⟩
      · cases j with
        | zero =>
          simp only [List.getElem?_cons_zero, Option.some.injEq] at hj
          subst hj
          exact ⟨q, _, rfl, rfl, cA, rfl, hAr.1, hAr.2⟩
        | succ j => simp at hj
      · rw [← h1.1]
        simp
      · show cells + 1 + (mem.2.1 - 1) ≤ Rm.cells
        omega
      · show slots + n.toNatClampNeg + (mem.2.2 - n.toNatClampNeg) ≤ Rm.slots
        omega
    · have hK1 : (Cond.arrayClass .long).before args s = true := hts _ (am_ok_mem (by have := am_k_ar; simp only [Bool.and_eq_true] at this; exact this.2))
      refine va_newa (atype := .long) (ty := .long) (a0 := (n.toNatClampNeg, .inr (.inl (fun _ => 0)))) hx hb hK1 rfl hK h2 h3 h4 hA (fun _ => rfl) hc.1.1.1 rfl (Nat.le_trans (Nat.mul_le_mul_right _ hc.1.1.2) (by decide)) (by omega) (by omega) hd (fun q cA H1 p1 p2 p3 p4 => ?_)
      have hpx : adr <+: adr ++ [q] := List.prefix_append _ _
      have hAr := p1.2 0 (cA, .long) rfl
      refine h _ _ _ _ _ _ (adr ++ [q]) _ ⟨h0.trans hpx, h1.add (as := [q]) (cs := [.inr (.inl (n.toNatClampNeg, fun _ => 0))]) (es := [(q, .inl (cA, (n.toNatClampNeg, .inr (.inl (fun _ => 0)))))]) rfl rfl (fun j cj hj => ?_), p2, p3, p4, h5.px hpx, ⟨_, _, rfl, ⟨q, ?_, rfl⟩, e5.px hpx⟩, ?_, ?_⟩
      · cases j with
        | zero =>
          simp only [List.getElem?_cons_zero, Option.some.injEq] at hj
          subst hj
          exact ⟨q, _, rfl, rfl, cA, rfl, hAr.1, hAr.2⟩
        | succ j => simp at hj
      · rw [← h1.1]
        simp
      · show cells + 1 + (mem.2.1 - 1) ≤ Rm.cells
        omega
      · show slots + n.toNatClampNeg + (mem.2.2 - n.toNatClampNeg) ≤ Rm.slots
        omega
    · exact h.elim
  · exact h.elim
theorem sm_mna {p : Program} {l : Launch} {e : Env} {Rm : Room} {s : State} {m : MethodId} {args : Array Value} {below : List Frame} {meth : Method} {c : Code} {Q : State → Prop} {D : va_G} {A : Nat → Prop} {ea : Nat → Nat} {nL : Nat} {adr0 : List Nat} {call : am_Fn} {R : am_R} {pc : Nat} {ls : am_L} {st : List Value} {mem : am_M} {H : Heap} {locs : List Loc} {cells slots : Nat} {jl : Array Slot} {js : List Value} {adr : List Nat} {ws : va_W} {k : Nat} {X : am_X} {base : Nat} {cc : ByteArray} {idx : Nat} (F : am_Fx p s m args meth c Rm k X base ea A D) (hb : c.code = cc) (hd : decode cc pc = .ok (.multianewarray idx 2, 4)) (h : am_do call (am_mna (am_own k) idx (pc + 4) ls st mem) (am_Sim p l e Rm s m args below meth c Q D A ea nL adr0) R) (hJ : am_J s D A ea nL Rm adr0 ls st mem H locs cells slots jl js adr ws)  : W p l e Rm s m args below meth c H locs cells slots Q (F0 m pc jl js) := by
  obtain ⟨h0, h1, h2, h3, h4, h5, h6, h7, h8⟩ := hJ
  obtain ⟨hx, -, hown, hts, hK, hA, hG, hbs, hex, hsx, hin2, -, hoC, -⟩ := F
  unfold am_mna at h
  split at h
  · rename_i kk n st2
    obtain ⟨w1, l1, e1, e2, w2, l2, e3, e4, e5⟩ := h6
    have e2 : w1 = .int kk := e2
    have e4 : w2 = .int n := e4
    subst e2; subst e4; subst e3; subst e1
    split at h
    · rename_i hc
      simp only [Bool.and_eq_true, decide_eq_true_eq, Bool.not_eq_true', decide_eq_false_iff_not] at hc
      obtain ⟨⟨⟨⟨⟨⟨hc1, hc2⟩, hc3⟩, hc4⟩, hc5⟩, hc6⟩, hc7⟩ := hc
      obtain ⟨q9, hq9⟩ := Option.isSome_iff_exists.mp hc1
      have hcl : Cond.classLink (am_cn (am_own k)) idx "[[I" ∈ am_TB := am_ok_mem (am_all2 am_k_mn hoC (am_lk hq9))
      have hK1 : (Cond.arrayClass .int).before args s = true := hts _ (am_ok_mem (by have := am_k_ar; simp only [Bool.and_eq_true] at this; exact this.1.1.1))
      have hov : (Cond.arrayOver (.array .int)).before args s = true := am_ao hex.2.2.2.2.2.2.2
      generalize hN : n.toNatClampNeg = N at h hc4 hc6 hc7
      generalize hKK : kk.toNatClampNeg = K at h hc5 hc7
      intro T hT Xs
      obtain ⟨vm1, cA, comp, -, fA, fC, hO, hI, X', step⟩ := Xs.multianewarray2F hx hown (ty := .int) (hts _ hcl) hov hK1 (g := F0 m pc jl (.int kk :: .int n :: l2)) rfl (by rw [hb]; exact hd) rfl hc2 hc3 (by omega) (by rw [hKK]; exact Nat.le_trans (Nat.mul_le_mul_right _ hc5) (by decide)) (by omega) rfl rfl (by rw [hN]; omega) (by rw [hN, hKK]; omega)
      rw [hN, hKK] at X' step
      generalize hF : Jvm.Free.Multi.fill (T.setVm vm1) cA comp N K (defaultValue .int) N = FF at X' step
      have hTh : (T.setVm vm1).heap = H := hT
      obtain ⟨f1, f2, -, -⟩ := Jvm.Free.Multi.fill_facts (T.setVm vm1) cA comp N K (defaultValue .int) N
      rw [hF, hTh] at f1 f2
      have hold : ∀ x : Nat, x < H.size → FF.heap[x]? = H[x]? := fun x hx9 => by
        have := Jvm.Free.Multi.fill_old (T.setVm vm1) cA comp N K (defaultValue .int) (a := x) (by rw [hTh]; exact hx9) N
        rw [hF, hTh] at this
        exact this
      have hrow : ∀ j : Nat, j < N → FF.heap[H.size + 1 + j]? = some (vp_cell comp (K, .inl (fun _ => 0))) := fun j hj => by
        have := Jvm.Free.Multi.fill_inner (T.setVm vm1) cA comp N K (defaultValue .int) N j hj
        rw [hF, hTh] at this
        rw [this]
        exact congrArg some (arrV_new comp K (.int 0))
      rw [am_outer] at f2
      have aO : ArrOfT s cA (.array .int) := fun nn z => ⟨fun x => by simp [arrV], (hO 0 0 0).1.2⟩
      have aI : ArrOfT s comp .int := fun nn z => ⟨fun x => by simp [arrV], (hI 0 .null).1.2⟩
      have hpx : adr <+: adr ++ H.size :: (List.range N).map (fun j => H.size + 1 + j) := List.prefix_append _ _
      have hP0 : va_P D classes ws FF.heap := h2.kept (fun k9 x hx9 => hold x.1 ((h2 k9 x hx9).lt))
      have hes : ∀ (k9 : Nat) (x : Nat × va_E), (((H.size, .inl (cA, N, .inr (.inr (.inr (.inr (fun j => if j < N then some (H.size + 1 + j) else none)))))) :: (List.range N).map (fun j => (H.size + 1 + j, .inl (comp, K, .inl (fun _ => 0)))) : va_W))[k9]? = some x → x.1 = H.size + k9 ∧ va_at D classes x FF.heap := by
        intro k9 x hx9
        cases k9 with
        | zero =>
          simp only [List.getElem?_cons_zero, Option.some.injEq] at hx9
          subst hx9
          exact ⟨rfl, f2⟩
        | succ k9 =>
          simp only [List.getElem?_cons_succ, List.getElem?_map] at hx9
          by_cases hk9 : k9 < N
          · rw [List.getElem?_range hk9] at hx9
            simp only [Option.map_some, Option.some.injEq] at hx9
            subst hx9
            exact ⟨by show H.size + 1 + k9 = H.size + (k9 + 1); omega, hrow k9 hk9⟩
          · rw [List.getElem?_eq_none (by rw [List.length_range]; omega)] at hx9
            simp at hx9
      have hP1 := hP0.app (fun k9 x hx9 => (hes k9 x hx9).2)
      have hD1 := am_D_add h3 (fun k9 x hx9 => (h2 k9 x hx9).lt) (fun k9 x hx9 => (hes k9 x hx9).1) (fun q hq => hA q (Nat.le_trans h4.1 hq))
      have hS1 : va_S A s.heap FF.heap locs := ⟨by rw [f1]; have := h4.1; omega, fun q hq1 hq2 => by rw [hold q (Nat.lt_of_lt_of_le hq1 h4.1)]; exact h4.2.1 q hq1 hq2, h4.2.2⟩
      have KK := h FF.heap locs (cells + 1 + N) (slots + N + N * K) jl (.ref H.size :: l2) _ _ ⟨h0.trans hpx, h1.add (as := H.size :: (List.range N).map (fun j => H.size + 1 + j)) (cs := .inr (.inr (.inl (N, fun i => some (mem.1.length + 1 + i)))) :: List.replicate N (.inl (0, K, fun _ => 0))) (es := ((H.size, .inl (cA, N, .inr (.inr (.inr (.inr (fun j => if j < N then some (H.size + 1 + j) else none)))))) :: (List.range N).map (fun j => (H.size + 1 + j, .inl (comp, K, .inl (fun _ => 0)))))) (by simp) (by simp) (fun j cj hj => by
        cases j with
        | zero =>
          simp only [List.getElem?_cons_zero, Option.some.injEq] at hj
          subst hj
          refine ⟨H.size, _, rfl, rfl, cA, _, rfl, aO, fun j k9 hj hk9 => ?_⟩
          cases hk9
          refine ⟨H.size + 1 + j, ?_, by rw [if_pos hj]⟩
          rw [List.getElem?_append_right (by rw [h1.1]; omega), h1.1, show mem.1.length + 1 + j - mem.1.length = j + 1 by omega, List.getElem?_cons_succ, List.getElem?_map, List.getElem?_range hj]
          rfl
        | succ j =>
          simp only [List.getElem?_cons_succ, List.getElem?_replicate] at hj
          split at hj
          · rename_i hj2
            cases hj
            refine ⟨H.size + 1 + j, .inl (comp, K, .inl (fun _ => 0)), ?_, ?_, comp, rfl, aI, fC⟩
            · simp [hj2]
            · simp [hj2]
          · cases hj), hP1, hD1, hS1, h5.px hpx, ⟨_, _, rfl, ⟨H.size, by rw [← h1.1]; simp, rfl⟩, e5.px hpx⟩, by
          show cells + 1 + N + (mem.2.1 - (1 + N)) ≤ Rm.cells
          omega, by
          show slots + N + N * K + (mem.2.2 - (N + N * K)) ≤ Rm.slots
          omega⟩
      obtain ⟨t, a1, b1⟩ := KK FF rfl X'
      refine ⟨t, step t ?_, b1⟩
      rw [show T.heap.size = H.size by rw [hT]]
      exact a1
    · exact h.elim
  · exact h.elim
