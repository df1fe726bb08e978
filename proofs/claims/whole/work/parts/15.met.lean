theorem am_ent_len {adr : List Nat} {ea : Nat → Nat} : ∀ {as jas : List Value}, am_vs adr ea as jas → (lg_sl jas).length = (am_ent as).length
  | [], jas, h => by rw [show jas = [] from h]; rfl
  | v :: as, jas, ⟨w, l, e, h1, h2⟩ => by
    subst e
    have ih := am_ent_len h2
    simp only [lg_sl, List.flatMap_cons, List.length_append, am_ent] at ih ⊢
    rw [h1.cat]
    by_cases hc : v.category = 2
    · rw [if_pos hc, if_pos hc]; simp [ih]; omega
    · rw [if_neg hc, if_neg hc]; simp [ih]; omega
theorem am_ent_at {adr : List Nat} {ea : Nat → Nat} : ∀ {as jas : List Value}, am_vs adr ea as jas → ∀ (o i : Nat) (v : Value), (am_ent as)[i]? = some (some v) → ∃ w, (o + i, w) ∈ lv_args o jas ∧ am_v adr ea v w
  | [], jas, h, o, i, v, hi => by simp [am_ent] at hi
  | u :: as, jas, ⟨w, l, e, h1, h2⟩, o, i, v, hi => by
    subst e
    simp only [am_ent] at hi
    simp only [lv_args]
    rw [h1.cat]
    by_cases hc : u.category = 2
    · rw [if_pos hc] at hi ⊢
      cases i with
      | zero =>
        simp at hi
        subst hi
        exact ⟨w, List.mem_cons_self, h1⟩
      | succ i =>
        cases i with
        | zero => simp at hi
        | succ i =>
          simp at hi
          obtain ⟨w', g1, g2⟩ := am_ent_at h2 (o + 2) i v hi
          exact ⟨w', List.mem_cons_of_mem _ (by rw [show o + (i + 1 + 1) = o + 2 + i by omega]; exact g1), g2⟩
    · rw [if_neg hc] at hi ⊢
      cases i with
      | zero =>
        simp at hi
        subst hi
        exact ⟨w, List.mem_cons_self, h1⟩
      | succ i =>
        simp at hi
        obtain ⟨w', g1, g2⟩ := am_ent_at h2 (o + 1) i v hi
        exact ⟨w', List.mem_cons_of_mem _ (by rw [show o + (i + 1) = o + 1 + i by omega]; exact g1), g2⟩
theorem am_ent_ls {adr : List Nat} {ea : Nat → Nat} {as jas : List Value} (h : am_vs adr ea as jas) {n : Nat} (hn : (am_ent as).length ≤ n) : am_ls adr ea n (am_pad (am_ent as) n) ((lg_sl jas ++ List.replicate (n - (lg_sl jas).length) Slot.unset).toArray) := by
  have hl := lv_entry jas (n := n) (by rw [am_ent_len h]; exact hn)
  refine ⟨by simp [am_pad]; omega, hl.1, hl.2.1, fun i v hi => ?_⟩
  unfold am_pad at hi
  by_cases hlt : i < (am_ent as).length
  · rw [List.getElem?_append_left hlt] at hi
    obtain ⟨w, g1, g2⟩ := am_ent_at h 0 i v hi
    rw [Nat.zero_add] at g1
    exact ⟨w, hl.2.2 (i, w) g1, g2⟩
  · rw [List.getElem?_append_right (by omega), List.getElem?_replicate] at hi
    split at hi <;> cases hi
def am_Decs : Prop := ∀ k, k < am_nM → ∀ (pc : Nat) (i : Instr) (n : Nat), am_code k pc = some (i, n) → decode (am_by k) pc = .ok (i, n)
def am_Jps : Prop := ∀ k, k < am_nM → ∀ (pc : Nat) (i : Instr) (n : Nat), am_code k pc = some (i, n) → ∀ (cc9 : Jvm.ClassFile.Cond) (off : Int), i = .ifCond cc9 off ∨ i = .if_icmp cc9 off → 0 ≤ (pc : Int) + off
theorem am_weakS {p : Program} {l : Launch} {e : Env} {Rm : Room} {s : State} {m : MethodId} {args : Array Value} {below : List Frame} {meth : Method} {c : Code} {Q : State → Prop} {D : va_G} {A : Nat → Prop} {ea : Nat → Nat} {nL : Nat} {adr0 : List Nat}  : ∀ (pc : Nat) (ls ls' : am_L) (st : List Value) (mem : am_M), am_le ls' ls → (am_Sim p l e Rm s m args below meth c Q D A ea nL adr0) pc ls' st mem → (am_Sim p l e Rm s m args below meth c Q D A ea nL adr0) pc ls st mem := by
  intro pc ls ls' st mem hle h H locs cells slots jl js adr ws hJ
  obtain ⟨h0, h1, h2, h3, h4, h5, h6, h7, h8⟩ := hJ
  exact h _ _ _ _ _ _ _ _ ⟨h0, h1, h2, h3, h4, h5.le hle, h6, h7, h8⟩
theorem am_D_adr {s : State} {adr : List Nat} {ea : Nat → Nat} {hp : List am_C} {ws : va_W} {A B : Nat → Prop} (h1 : am_w s adr ea hp ws) (hD : va_D B ws) (hA : ∀ q ∈ adr, A q) : va_D A ws :=
  hD.weaken (fun k q hk _ => by
    have hl : k < hp.length := by rw [← h1.2.1]; exact (List.getElem?_eq_some_iff.mp hk).1
    obtain ⟨a, e, g1, g2, -⟩ := h1.2.2 k _ (List.getElem?_eq_getElem hl)
    rw [hk] at g2
    cases g2
    exact hA _ (List.mem_of_getElem? g1))
set_option maxHeartbeats 2000000 in
theorem am_met (l : Launch) (base : Nat) (ea : Nat → Nat) (D : va_G) (hcd : am_Codes) (hdc : am_Decs) (hjp : am_Jps) (d : Nat) (hC : am_Calls l base ea D d (am_meth d)) : am_Calls l base ea D (d + 1) (am_meth (d + 1)) := by
  intro k as hp9 R hk h
  by_cases hp : am_isp k = true
  · refine Or.inl ⟨hp, ?_⟩
    simp only [am_meth] at h
    rw [if_pos hp] at h
    exact h
  · simp only [am_meth] at h
    rw [if_neg hp] at h
    obtain ⟨hlen, hrun⟩ := h
    have hp2 : am_isp k = false := by simpa using hp
    refine Or.inr ⟨hp2, fun adr jas sz hvs => ?_⟩
    have hnm : k < am_nM := by
      rcases hk with q | q
      · exact q
      · rw [q] at hp2; exact absurd hp2 (by simp [am_isp])
    obtain ⟨x1, x2, x3, x4, x5, x6⟩ := am_mn hnm
    have hpl : plainName (am_y k).cls = true := by
      rcases x1 with q | q
      · exact q
      · exact absurd hp2 (by simp [am_isp, q])
    refine Met.ofW (cc := am_by k) (maxL := am_ml k) (ret := am_rt k) hpl (ws' := am_TB) rfl ?_
    intro p e s m args below meth c s1 B hml hv
    obtain ⟨rfl, hsz, hbase, hadr, ⟨ws, hw, hP, hD⟩, hK, hex⟩ := hv
    subst hsz
    have hlocks := B.notSynchronized
    have hts0 := atoms_spec (ws := am_wsM k) B.pre
    have hts : ∀ w ∈ am_TB, w.before jas.toArray s = true := fun w hw9 => hts0 w (List.mem_cons_of_mem _ hw9)
    have hown : s.vm.findClass (am_cn (am_own k)) = some m.cls := findClass_of_methodNamed B.named
    have hr := B.returns
    have hb := B.bytes
    have hx := B.exec
    have hA : ∀ q : Nat, s.heap.size ≤ q → am_A adr s.heap.size q := fun q hq => Or.inr hq
    have hG : ∀ q : Nat, am_A adr s.heap.size q → base ≤ q := fun q hq => by
      rcases hq with hq | hq
      · exact hadr q hq
      · omega
    have F : am_Fx p s m jas.toArray meth c (headSpec (am_wsM k) (am_rm (d + 1) k)).room k am_X0 base ea (am_A adr s.heap.size) D :=
      ⟨hx, hb, hown, hts, hK, hA, hG, hbase, hex, fun x hx9 => (by cases hx9), fun hk2 => ((name_of_methodNamed B.named B.method).1.trans (x3.mp hk2)), hml, x4, (by show 1 ≤ d + 1 + 1; omega), (by show 60 ≤ 60 * (d + 1 + 1); omega)⟩
    have hRt : am_Rt p l e (headSpec (am_wsM k) (am_rm (d + 1) k)).room s m jas.toArray below meth c (MQ below (am_Out base ea D adr s.heap.size R) jas.toArray s (am_bc k) (am_bs k) (am_A adr s.heap.size)) D (am_A adr s.heap.size) ea (am_ml k) adr k R := by
      intro pc ls mem H locs cells slots jl js adr2 ws2
      refine ⟨fun x hJ hRR hd hrt => ?_, fun x hJ hRR hd hrt => ?_, fun hJ hRR hd hrt => ?_⟩
      · obtain ⟨h0, h1, h2, h3, h4, h5, ⟨w9, l9, e1, e2, e3⟩, h7, h8⟩ := hJ
        have e2 : w9 = .int x := e2
        have e3 : l9 = [] := e3
        subst e2; subst e3; subst e1
        have h7 : cells + mem.2.1 ≤ am_bc k := h7
        have h8 : slots + mem.2.2 ≤ am_bs k := h8
        refine W.widen (k := am_bc k) (n := am_bs k) (by omega) (by omega) ?_
        have hq : ∀ t : State, t.heap = H → s.WarmedH t.vm → am_Out base ea D adr s.heap.size R jas.toArray s (.returned (some (.int x))) t := fun t ht hW => ⟨⟨some (.int x), some (.int x), mem, adr2, ws2, rfl, hRR, h0, ⟨_, _, rfl, rfl, rfl⟩, h1.moved hW.alike, by rw [ht]; exact h2, h3⟩, h4.F ht⟩
        rcases hrt with hrt | ⟨hrt | hrt, hx01⟩
        · exact W.iret hx hb (hr.trans hrt) hq h4.2.2 hd
        · refine W.zret (ty := .boolean) hx hb (hr.trans hrt) ?_ hq h4.2.2 hd
          rcases hx01 with rfl | rfl <;> decide
        · refine W.zret (ty := .byte) hx hb (hr.trans hrt) ?_ hq h4.2.2 hd
          rcases hx01 with rfl | rfl <;> decide
      · obtain ⟨h0, h1, h2, h3, h4, h5, ⟨w9, l9, e1, e2, e3⟩, h7, h8⟩ := hJ
        have e2 : w9 = .long x := e2
        have e3 : l9 = [] := e3
        subst e2; subst e3; subst e1
        have h7 : cells + mem.2.1 ≤ am_bc k := h7
        have h8 : slots + mem.2.2 ≤ am_bs k := h8
        refine W.widen (k := am_bc k) (n := am_bs k) (by omega) (by omega) ?_
        exact W.lret hx hb (hr.trans hrt) (fun t ht hW => ⟨⟨some (.long x), some (.long x), mem, adr2, ws2, rfl, hRR, h0, ⟨_, _, rfl, rfl, rfl⟩, h1.moved hW.alike, by rw [ht]; exact h2, h3⟩, h4.F ht⟩) h4.2.2 hd
      · obtain ⟨h0, h1, h2, h3, h4, h5, h6, h7, h8⟩ := hJ
        have h6 : js = [] := h6
        subst h6
        have h7 : cells + mem.2.1 ≤ am_bc k := h7
        have h8 : slots + mem.2.2 ≤ am_bs k := h8
        refine W.widen (k := am_bc k) (n := am_bs k) (by omega) (by omega) ?_
        exact W.vret hx hb (hr.trans hrt) (fun t ht hW => ⟨⟨none, none, mem, adr2, ws2, rfl, hRR, h0, rfl, h1.moved hW.alike, by rw [ht]; exact h2, h3⟩, h4.F ht⟩) h4.2.2 hd
    have hS := hrun _ (am_sim (nL := am_ml k) (adr0 := adr) F hC hcd ⟨(by show d + 2 ≤ d + 1 + 1; omega), (by show 60 * (d + 1) + 60 ≤ 60 * (d + 1 + 1); omega)⟩ rfl (hdc k hnm) (hjp k hnm) hRt) am_weakS
    rw [lg_entry_eq]
    exact hS s.heap [] 0 0 _ [] adr ws ⟨List.prefix_refl _, hw, hP, am_D_adr hw hD (fun q hq => Or.inl hq), va_S.rf, am_ent_ls hvs hlen, rfl, (by show 0 + am_bc k ≤ am_bc k; omega), (by show 0 + am_bs k ≤ am_bs k; omega)⟩
theorem am_calls (l : Launch) (base : Nat) (ea : Nat → Nat) (D : va_G) (hcd : am_Codes) (hdc : am_Decs) (hjp : am_Jps) : ∀ d, am_Calls l base ea D d (am_meth d)
  | 0 => fun _ _ _ _ _ h => h.elim
  | d + 1 => am_met l base ea D hcd hdc hjp d (am_calls l base ea D hcd hdc hjp d)
