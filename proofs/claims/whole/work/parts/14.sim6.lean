/-- what the real machine does at a return -/
def am_Rt (p : Program) (l : Launch) (e : Env) (Rm : Room) (s : State) (m : MethodId) (args : Array Value) (below : List Frame) (meth : Method) (c : Code) (Q : State → Prop) (D : va_G) (A : Nat → Prop) (ea : Nat → Nat) (nL : Nat) (adr0 : List Nat) (k : Nat) (R : am_R) : Prop := ∀ (pc : Nat) (ls : am_L) (mem : am_M) (H : Heap) (locs : List Loc) (cells slots : Nat) (jl : Array Slot) (js : List Value) (adr : List Nat) (ws : va_W),
  (∀ x : Int32, am_J s D A ea nL Rm adr0 ls [.int x] mem H locs cells slots jl js adr ws → R (some (.int x)) mem → decode (am_by k) pc = .ok (.ireturn, 1) → (am_rt k = some .int ∨ ((am_rt k = some .boolean ∨ am_rt k = some .byte) ∧ (x = 0 ∨ x = 1))) → W p l e Rm s m args below meth c H locs cells slots Q (F0 m pc jl js)) ∧
  (∀ x : Int64, am_J s D A ea nL Rm adr0 ls [.long x] mem H locs cells slots jl js adr ws → R (some (.long x)) mem → decode (am_by k) pc = .ok (.lreturn, 1) → am_rt k = some .long → W p l e Rm s m args below meth c H locs cells slots Q (F0 m pc jl js)) ∧
  (am_J s D A ea nL Rm adr0 ls [] mem H locs cells slots jl js adr ws → R none mem → decode (am_by k) pc = .ok (.return_, 1) → am_rt k = none → W p l e Rm s m args below meth c H locs cells slots Q (F0 m pc jl js))
set_option maxHeartbeats 4000000 in
theorem am_sim {p : Program} {l : Launch} {e : Env} {Rm : Room} {s : State} {m : MethodId} {args : Array Value} {below : List Frame} {meth : Method} {c : Code} {Q : State → Prop} {D : va_G} {A : Nat → Prop} {ea : Nat → Nat} {nL : Nat} {adr0 : List Nat} {call : am_Fn} {R : am_R} {k : Nat} {X : am_X} {base d : Nat} (F : am_Fx p s m args meth c Rm k X base ea A D) (hC : am_Calls l base ea D d call) (hcd : am_Codes) (hRm : d + 2 ≤ Rm.frames ∧ 60 * (d + 1) + 60 ≤ Rm.locals) (hnL : nL = am_ml k) (hdec : ∀ (pc : Nat) (i : Instr) (n : Nat), am_code k pc = some (i, n) → decode (am_by k) pc = .ok (i, n)) (hjp : ∀ (pc : Nat) (i : Instr) (n : Nat), am_code k pc = some (i, n) → ∀ (cc9 : Jvm.ClassFile.Cond) (off : Int), i = .ifCond cc9 off ∨ i = .if_icmp cc9 off → 0 ≤ (pc : Int) + off) (hR : am_Rt p l e Rm s m args below meth c Q D A ea nL adr0 k R) : ∀ (pc : Nat) (ls : am_L) (st : List Value) (mem : am_M), am_do call (am_at X k pc ls st mem) (am_Sim p l e Rm s m args below meth c Q D A ea nL adr0) R → (am_Sim p l e Rm s m args below meth c Q D A ea nL adr0) pc ls st mem := by
  intro pc ls st mem h H locs cells slots jl js adr ws hJ
  obtain ⟨h0, h1, h2, h3, h4, h5, h6, h7, h8⟩ := id hJ
  obtain ⟨hx, hb, hown, hts, hK, hA, hG, hbs, hex, hsx, hin2, hml, hoC, hf1, hl1⟩ := id F
  unfold am_at at h
  split at h
  rotate_left
  · exact h.elim
  rename_i i n hcode
  split at h
  rotate_left
  · exact h.elim
  rename_i hn
  have hd := hdec pc i n hcode
  have hj := hjp pc i n hcode
  unfold am_step at h
  split at h
  · rename_i f hf
    cases i with
    | iadd =>
      have hn : n = 1 := hn
      subst hn
      cases hf
      exact sm_ibs h hJ (fun x y z js2 e9 hz kk => by subst e9; cases hz; exact lv_iadd hx hb hd kk)
    | isub =>
      have hn : n = 1 := hn
      subst hn
      cases hf
      exact sm_ibs h hJ (fun x y z js2 e9 hz kk => by subst e9; cases hz; exact lv_isub hx hb hd kk)
    | imul =>
      have hn : n = 1 := hn
      subst hn
      cases hf
      exact sm_ibs h hJ (fun x y z js2 e9 hz kk => by subst e9; cases hz; exact lv_imul hx hb hd kk)
    | iand =>
      have hn : n = 1 := hn
      subst hn
      cases hf
      exact sm_ibs h hJ (fun x y z js2 e9 hz kk => by subst e9; cases hz; exact lv_iand hx hb hd kk)
    | ior =>
      have hn : n = 1 := hn
      subst hn
      cases hf
      exact sm_ibs h hJ (fun x y z js2 e9 hz kk => by subst e9; cases hz; exact lv_ior hx hb hd kk)
    | ixor =>
      have hn : n = 1 := hn
      subst hn
      cases hf
      exact sm_ibs h hJ (fun x y z js2 e9 hz kk => by subst e9; cases hz; exact lv_ixor hx hb hd kk)
    | ishl =>
      have hn : n = 1 := hn
      subst hn
      cases hf
      exact sm_ibs h hJ (fun x y z js2 e9 hz kk => by subst e9; cases hz; exact lv_ishl hx hb hd kk)
    | ishr =>
      have hn : n = 1 := hn
      subst hn
      cases hf
      exact sm_ibs h hJ (fun x y z js2 e9 hz kk => by subst e9; cases hz; exact lv_ishr hx hb hd kk)
    | iushr =>
      have hn : n = 1 := hn
      subst hn
      cases hf
      exact sm_ibs h hJ (fun x y z js2 e9 hz kk => by subst e9; cases hz; exact lv_iushr hx hb hd rfl kk)
    | idiv =>
      have hn : n = 1 := hn
      subst hn
      cases hf
      exact sm_ibs h hJ (fun x y z js2 e9 hz kk => by
      subst e9
      split at hz
      · cases hz
      · rename_i hne
        cases hz
        exact lv_idiv hx hb hd hne kk)
    | irem =>
      have hn : n = 1 := hn
      subst hn
      cases hf
      exact sm_ibs h hJ (fun x y z js2 e9 hz kk => by
      subst e9
      split at hz
      · cases hz
      · rename_i hne
        cases hz
        exact lv_irem hx hb hd hne kk)
    | _ => cases hf
  split at h
  · rename_i f hf
    cases i with
    | ladd =>
      have hn : n = 1 := hn
      subst hn
      cases hf
      exact sm_lbs h hJ (fun x y z js2 e9 hz kk => by subst e9; cases hz; exact lv_ladd hx hb hd kk)
    | lsub =>
      have hn : n = 1 := hn
      subst hn
      cases hf
      exact sm_lbs h hJ (fun x y z js2 e9 hz kk => by subst e9; cases hz; exact lv_lsub hx hb hd kk)
    | lmul =>
      have hn : n = 1 := hn
      subst hn
      cases hf
      exact sm_lbs h hJ (fun x y z js2 e9 hz kk => by subst e9; cases hz; exact lv_lmul hx hb hd kk)
    | land =>
      have hn : n = 1 := hn
      subst hn
      cases hf
      exact sm_lbs h hJ (fun x y z js2 e9 hz kk => by subst e9; cases hz; exact lv_land hx hb hd kk)
    | lor =>
      have hn : n = 1 := hn
      subst hn
      cases hf
      exact sm_lbs h hJ (fun x y z js2 e9 hz kk => by subst e9; cases hz; exact lv_lor hx hb hd kk)
    | ldiv =>
      have hn : n = 1 := hn
      subst hn
      cases hf
      exact sm_lbs h hJ (fun x y z js2 e9 hz kk => by
        subst e9
        split at hz
        · cases hz
        · rename_i hne
          cases hz
          exact lv_ldiv hx hb hd hne kk)
    | lrem =>
      have hn : n = 1 := hn
      subst hn
      cases hf
      exact sm_lbs h hJ (fun x y z js2 e9 hz kk => by
        subst e9
        split at hz
        · cases hz
        · rename_i hne
          cases hz
          exact lv_lrem hx hb hd hne kk)
    | _ => cases hf
  · cases i with
    | iconst n9 =>
      have hn : n = 1 := hn
      subst hn
      exact lv_iconst hx hb hd rfl (h _ _ _ _ _ _ _ _ ⟨h0, h1, h2, h3, h4, h5, ⟨_, _, rfl, rfl, h6⟩, h7, h8⟩)
    | bipush n9 =>
      have hn : n = 2 := hn
      subst hn
      exact lv_bipush hx hb hd rfl (h _ _ _ _ _ _ _ _ ⟨h0, h1, h2, h3, h4, h5, ⟨_, _, rfl, rfl, h6⟩, h7, h8⟩)
    | sipush n9 =>
      have hn : n = 3 := hn
      subst hn
      exact lv_sipush hx hb hd rfl (h _ _ _ _ _ _ _ _ ⟨h0, h1, h2, h3, h4, h5, ⟨_, _, rfl, rfl, h6⟩, h7, h8⟩)
    | lconst n9 =>
      have hn : n = 1 := hn
      subst hn
      exact lv_lconst hx hb hd rfl (h _ _ _ _ _ _ _ _ ⟨h0, h1, h2, h3, h4, h5, ⟨_, _, rfl, rfl, h6⟩, h7, h8⟩)
    | ldc j =>
      have hn : n = 2 := hn
      subst hn
      simp only [am_misc] at h
      split at h
      · rename_i v hv
        exact lv_ldc hx hb hown (hts _ (am_ci_ok hoC hv)) hd (h _ _ _ _ _ _ _ _ ⟨h0, h1, h2, h3, h4, h5, ⟨_, _, rfl, rfl, h6⟩, h7, h8⟩)
      · split at h
        · rename_i hs
          exact va_ldcS hx hb hown (am_sr_ok hoC hex hs) hd (h _ _ _ _ _ _ _ _ ⟨h0, h1, h2, h3, h4, h5, ⟨_, _, rfl, rfl, h6⟩, h7, h8⟩)
        · exact h.elim
    | ldc_w j =>
      have hn : n = 3 := hn
      subst hn
      simp only [am_misc] at h
      split at h
      · rename_i v hv
        exact lv_ldcw hx hb hown (hts _ (am_ci_ok hoC hv)) hd (h _ _ _ _ _ _ _ _ ⟨h0, h1, h2, h3, h4, h5, ⟨_, _, rfl, rfl, h6⟩, h7, h8⟩)
      · exact h.elim
    | ldc2_w j =>
      have hn : n = 3 := hn
      subst hn
      simp only [am_misc] at h
      split at h
      · rename_i v hv
        exact lv_ldc2 hx hb hown (hts _ (am_cj_ok hoC hv)) hd (h _ _ _ _ _ _ _ _ ⟨h0, h1, h2, h3, h4, h5, ⟨_, _, rfl, rfl, h6⟩, h7, h8⟩)
      · exact h.elim
    | iload j =>
      have hn : n = 2 := hn
      subst hn
      exact sm_ild h hJ (fun x hl kk => lv_iload hx hb hd hl kk)
    | iload_n j =>
      have hn : n = 1 := hn
      subst hn
      exact sm_ild h hJ (fun x hl kk => lv_iload_n hx hb hd rfl hl kk)
    | lload j =>
      have hn : n = 2 := hn
      subst hn
      exact sm_lld h hJ (fun x hl kk => lv_lload hx hb hd hl kk)
    | lload_n j =>
      have hn : n = 1 := hn
      subst hn
      exact sm_lld h hJ (fun x hl kk => lv_lload_n hx hb hd rfl hl kk)
    | aload j =>
      have hn : n = 2 := hn
      subst hn
      exact sm_ald h hJ (fun x hl kk => lv_aload hx hb hd hl kk)
    | aload_n j =>
      have hn : n = 1 := hn
      subst hn
      exact sm_ald h hJ (fun x hl kk => lv_aload_n hx hb hd rfl hl kk)
    | istore j =>
      have hn : n = 2 := hn
      subst hn
      exact sm_ist h hJ (fun x js2 lv e9 hl hn9 kk => by subst e9; exact lv_istore hx hb hd hl hn9 rfl kk)
    | istore_n j =>
      have hn : n = 1 := hn
      subst hn
      exact sm_ist h hJ (fun x js2 lv e9 hl hn9 kk => by subst e9; exact lv_istore_n hx hb hd rfl hl hn9 rfl kk)
    | lstore j =>
      have hn : n = 2 := hn
      subst hn
      exact sm_lst h hJ (fun x js2 lv e9 hl hn9 kk => by subst e9; exact lv_lstore hx hb hd hl hn9 rfl kk)
    | lstore_n j =>
      have hn : n = 1 := hn
      subst hn
      exact sm_lst h hJ (fun x js2 lv e9 hl hn9 kk => by subst e9; exact lv_lstore_n hx hb hd rfl hl hn9 rfl kk)
    | astore j =>
      have hn : n = 2 := hn
      subst hn
      exact sm_ast h hJ (fun x js2 lv e9 hl hn9 kk => by subst e9; exact lv_astore hx hb hd hl hn9 rfl kk)
    | astore_n j =>
      have hn : n = 1 := hn
      subst hn
      exact sm_ast h hJ (fun x js2 lv e9 hl hn9 kk => by subst e9; exact lv_astore_n hx hb hd rfl hl hn9 rfl kk)
    | iinc j n9 =>
      have hn : n = 3 := hn
      subst hn
      exact sm_iic h hJ (fun x lv k9 hl hk9 hn9 kk => lv_iinc hx hb hd hl hk9 rfl hn9 rfl kk)
    | iaload =>
      have hn : n = 1 := hn
      subst hn
      exact sm_iald F hb hd h hJ
    | baload =>
      have hn : n = 1 := hn
      subst hn
      exact sm_bald F hb hd h hJ
    | laload =>
      have hn : n = 1 := hn
      subst hn
      exact sm_lald F hb hd h hJ
    | aaload =>
      have hn : n = 1 := hn
      subst hn
      exact sm_aald F hb hd h hJ
    | iastore =>
      have hn : n = 1 := hn
      subst hn
      exact sm_iast F hb hd h hJ
    | bastore =>
      have hn : n = 1 := hn
      subst hn
      exact sm_bast F hb hd h hJ
    | lastore =>
      have hn : n = 1 := hn
      subst hn
      exact sm_last F hb hd h hJ
    | arraylength =>
      have hn : n = 1 := hn
      subst hn
      exact sm_alen F hb hd h hJ
    | ineg =>
      have hn : n = 1 := hn
      subst hn
      simp only [am_misc] at h
      split at h
      · rename_i x st2
        obtain ⟨w1, l1, e1, e2, e5⟩ := h6
        have e2 : w1 = .int x := e2
        subst e2; subst e1
        exact lv_ineg hx hb hd (h _ _ _ _ _ _ _ _ ⟨h0, h1, h2, h3, h4, h5, ⟨_, _, rfl, rfl, e5⟩, h7, h8⟩)
      · exact h.elim
    | i2l =>
      have hn : n = 1 := hn
      subst hn
      simp only [am_misc] at h
      split at h
      · rename_i x st2
        obtain ⟨w1, l1, e1, e2, e5⟩ := h6
        have e2 : w1 = .int x := e2
        subst e2; subst e1
        exact lv_i2l hx hb hd rfl (h _ _ _ _ _ _ _ _ ⟨h0, h1, h2, h3, h4, h5, ⟨_, _, rfl, rfl, e5⟩, h7, h8⟩)
      · exact h.elim
    | l2i =>
      have hn : n = 1 := hn
      subst hn
      simp only [am_misc] at h
      split at h
      · rename_i x st2
        obtain ⟨w1, l1, e1, e2, e5⟩ := h6
        have e2 : w1 = .long x := e2
        subst e2; subst e1
        exact lv_l2i hx hb hd rfl (h _ _ _ _ _ _ _ _ ⟨h0, h1, h2, h3, h4, h5, ⟨_, _, rfl, rfl, e5⟩, h7, h8⟩)
      · exact h.elim
    | i2b =>
      have hn : n = 1 := hn
      subst hn
      simp only [am_misc] at h
      split at h
      · rename_i x st2
        obtain ⟨w1, l1, e1, e2, e5⟩ := h6
        have e2 : w1 = .int x := e2
        subst e2; subst e1
        exact lv_i2b hx hb hd rfl (h _ _ _ _ _ _ _ _ ⟨h0, h1, h2, h3, h4, h5, ⟨_, _, rfl, rfl, e5⟩, h7, h8⟩)
      · exact h.elim
    | i2c =>
      have hn : n = 1 := hn
      subst hn
      simp only [am_misc] at h
      split at h
      · rename_i x st2
        obtain ⟨w1, l1, e1, e2, e5⟩ := h6
        have e2 : w1 = .int x := e2
        subst e2; subst e1
        exact lv_i2c hx hb hd rfl (h _ _ _ _ _ _ _ _ ⟨h0, h1, h2, h3, h4, h5, ⟨_, _, rfl, rfl, e5⟩, h7, h8⟩)
      · exact h.elim
    | lshl =>
      have hn : n = 1 := hn
      subst hn
      simp only [am_misc] at h
      split at h
      · rename_i y x st2
        obtain ⟨w1, l1, e1, e2, w2, l2, e3, e4, e5⟩ := h6
        have e2 : w1 = .int y := e2
        have e4 : w2 = .long x := e4
        subst e2; subst e4; subst e3; subst e1
        exact lv_lshl hx hb hd rfl (h _ _ _ _ _ _ _ _ ⟨h0, h1, h2, h3, h4, h5, ⟨_, _, rfl, rfl, e5⟩, h7, h8⟩)
      · exact h.elim
    | lshr =>
      have hn : n = 1 := hn
      subst hn
      simp only [am_misc] at h
      split at h
      · rename_i y x st2
        obtain ⟨w1, l1, e1, e2, w2, l2, e3, e4, e5⟩ := h6
        have e2 : w1 = .int y := e2
        have e4 : w2 = .long x := e4
        subst e2; subst e4; subst e3; subst e1
        exact lv_lshr hx hb hd rfl (h _ _ _ _ _ _ _ _ ⟨h0, h1, h2, h3, h4, h5, ⟨_, _, rfl, rfl, e5⟩, h7, h8⟩)
      · exact h.elim
    | lushr =>
      have hn : n = 1 := hn
      subst hn
      simp only [am_misc] at h
      split at h
      · rename_i y x st2
        obtain ⟨w1, l1, e1, e2, w2, l2, e3, e4, e5⟩ := h6
        have e2 : w1 = .int y := e2
        have e4 : w2 = .long x := e4
        subst e2; subst e4; subst e3; subst e1
        exact lv_lushr hx hb hd rfl (h _ _ _ _ _ _ _ _ ⟨h0, h1, h2, h3, h4, h5, ⟨_, _, rfl, rfl, e5⟩, h7, h8⟩)
      · exact h.elim
    | lcmp =>
      have hn : n = 1 := hn
      subst hn
      simp only [am_misc] at h
      split at h
      · rename_i y x st2
        obtain ⟨w1, l1, e1, e2, w2, l2, e3, e4, e5⟩ := h6
        have e2 : w1 = .long y := e2
        have e4 : w2 = .long x := e4
        subst e2; subst e4; subst e3; subst e1
        exact W.lcmp hx hb hd (h _ _ _ _ _ _ _ _ ⟨h0, h1, h2, h3, h4, h5, ⟨_, _, rfl, rfl, e5⟩, h7, h8⟩)
      · exact h.elim
    | dup =>
      have hn : n = 1 := hn
      subst hn
      simp only [am_misc] at h
      split at h
      · rename_i a st2
        obtain ⟨w1, l1, e1, e2, e5⟩ := h6
        subst e1
        split at h
        · rename_i hc
          exact lv_dup hx hb hd (e2.cat.trans hc) (h _ _ _ _ _ _ _ _ ⟨h0, h1, h2, h3, h4, h5, ⟨_, _, rfl, e2, _, _, rfl, e2, e5⟩, h7, h8⟩)
        · exact h.elim
      · exact h.elim
    | dup_x1 =>
      have hn : n = 1 := hn
      subst hn
      simp only [am_misc] at h
      split at h
      · rename_i a b st2
        obtain ⟨w1, l1, e1, e2, w2, l2, e3, e4, e5⟩ := h6
        subst e3; subst e1
        split at h
        · rename_i hc
          exact lv_dup_x1 hx hb hd (e2.cat.trans hc.1) (e4.cat.trans hc.2) (h _ _ _ _ _ _ _ _ ⟨h0, h1, h2, h3, h4, h5, ⟨_, _, rfl, e2, _, _, rfl, e4, _, _, rfl, e2, e5⟩, h7, h8⟩)
        · exact h.elim
      · exact h.elim
    | dup2 =>
      have hn : n = 1 := hn
      subst hn
      simp only [am_misc] at h
      split at h
      · rename_i a b st2
        obtain ⟨w1, l1, e1, e2, w2, l2, e3, e4, e5⟩ := h6
        subst e3; subst e1
        split at h
        · rename_i hc
          exact lv_dup2_11 hx hb hd (e2.cat.trans hc.1) (e4.cat.trans hc.2) (h _ _ _ _ _ _ _ _ ⟨h0, h1, h2, h3, h4, h5, ⟨_, _, rfl, e2, _, _, rfl, e4, _, _, rfl, e2, _, _, rfl, e4, e5⟩, h7, h8⟩)
        · exact h.elim
      · exact h.elim
    | ifCond cc9 off =>
      have hn : n = 3 := hn
      subst hn
      have hoffs : ∀ o9 : Int, o9 = off → 0 ≤ (pc : Int) + o9 := fun o9 ho9 => by rw [ho9]; exact hj cc9 off (Or.inl rfl)
      simp only [am_misc] at h
      split at h
      · rename_i x st2
        obtain ⟨w1, l1, e1, e2, e5⟩ := h6
        have e2 : w1 = .int x := e2
        subst e2; subst e1
        by_cases hcnd : am_cmp cc9 x 0 = true
        · rw [if_pos hcnd] at h
          obtain ⟨t9, ht9, hk9⟩ := sm_to h
          have hgo : am_cmp cc9 x 0 = true → W p l e Rm s m args below meth c H locs cells slots Q (F0 m t9 jl l1) := fun _ => hk9 _ _ _ _ _ _ _ _ ⟨h0, h1, h2, h3, h4, h5, e5, h7, h8⟩
          have hfall : ¬ am_cmp cc9 x 0 = true → W p l e Rm s m args below meth c H locs cells slots Q (F0 m (pc + 3) jl l1) := fun q => absurd hcnd q
          cases cc9 with
          | eq =>
            have hnt : am_cmp .eq x 0 = true ↔ _ := decide_eq_true_iff
            exact lv_if_eq hx hb hd (tgt := t9) ht9 (fun hcc => hgo (hnt.mpr hcc)) (fun hcc => hfall (fun q => hcc (hnt.mp q)))
          | ne =>
            have hnt : am_cmp .ne x 0 = true ↔ _ := decide_eq_true_iff
            exact lv_if_ne hx hb hd (tgt := t9) ht9 (fun hcc => hgo (hnt.mpr hcc)) (fun hcc => hfall (fun q => hnt.mp q hcc))
          | lt =>
            have hnt : am_cmp .lt x 0 = true ↔ _ := decide_eq_true_iff
            exact lv_if_lt hx hb hd (tgt := t9) ht9 (fun hcc => hgo (hnt.mpr hcc)) (fun hcc => hfall (fun q => hcc (hnt.mp q)))
          | ge =>
            have hnt : am_cmp .ge x 0 = true ↔ _ := decide_eq_true_iff
            exact lv_if_ge hx hb hd (tgt := t9) ht9 (fun hcc => hgo (hnt.mpr hcc)) (fun hcc => hfall (fun q => hcc (hnt.mp q)))
          | gt =>
            have hnt : am_cmp .gt x 0 = true ↔ _ := decide_eq_true_iff
            exact lv_if_gt hx hb hd (tgt := t9) ht9 (fun hcc => hgo (hnt.mpr hcc)) (fun hcc => hfall (fun q => hcc (hnt.mp q)))
          | le =>
            have hnt : am_cmp .le x 0 = true ↔ _ := decide_eq_true_iff
            exact lv_if_le hx hb hd (tgt := t9) ht9 (fun hcc => hgo (hnt.mpr hcc)) (fun hcc => hfall (fun q => hcc (hnt.mp q)))
        · rw [if_neg hcnd] at h
          have hfall : ¬ am_cmp cc9 x 0 = true → W p l e Rm s m args below meth c H locs cells slots Q (F0 m (pc + 3) jl l1) := fun _ => h _ _ _ _ _ _ _ _ ⟨h0, h1, h2, h3, h4, h5, e5, h7, h8⟩
          by_cases hoff : 0 ≤ (pc : Int) + off
          · obtain ⟨t9, ht9⟩ : ∃ t9 : Nat, (pc : Int) + off = (t9 : Int) := ⟨((pc : Int) + off).toNat, (Int.toNat_of_nonneg hoff).symm⟩
            have hgo : am_cmp cc9 x 0 = true → W p l e Rm s m args below meth c H locs cells slots Q (F0 m t9 jl l1) := fun q => absurd q hcnd
            cases cc9 with
            | eq =>
              have hnt : am_cmp .eq x 0 = true ↔ _ := decide_eq_true_iff
              exact lv_if_eq hx hb hd (tgt := t9) ht9 (fun hcc => hgo (hnt.mpr hcc)) (fun hcc => hfall (fun q => hcc (hnt.mp q)))
            | ne =>
              have hnt : am_cmp .ne x 0 = true ↔ _ := decide_eq_true_iff
              exact lv_if_ne hx hb hd (tgt := t9) ht9 (fun hcc => hgo (hnt.mpr hcc)) (fun hcc => hfall (fun q => hnt.mp q hcc))
            | lt =>
              have hnt : am_cmp .lt x 0 = true ↔ _ := decide_eq_true_iff
              exact lv_if_lt hx hb hd (tgt := t9) ht9 (fun hcc => hgo (hnt.mpr hcc)) (fun hcc => hfall (fun q => hcc (hnt.mp q)))
            | ge =>
              have hnt : am_cmp .ge x 0 = true ↔ _ := decide_eq_true_iff
              exact lv_if_ge hx hb hd (tgt := t9) ht9 (fun hcc => hgo (hnt.mpr hcc)) (fun hcc => hfall (fun q => hcc (hnt.mp q)))
            | gt =>
              have hnt : am_cmp .gt x 0 = true ↔ _ := decide_eq_true_iff
              exact lv_if_gt hx hb hd (tgt := t9) ht9 (fun hcc => hgo (hnt.mpr hcc)) (fun hcc => hfall (fun q => hcc (hnt.mp q)))
            | le =>
              have hnt : am_cmp .le x 0 = true ↔ _ := decide_eq_true_iff
              exact lv_if_le hx hb hd (tgt := t9) ht9 (fun hcc => hgo (hnt.mpr hcc)) (fun hcc => hfall (fun q => hcc (hnt.mp q)))
          · exact absurd hoff (not_not_intro (hoffs off rfl))
      · exact h.elim
    | if_icmp cc9 off =>
      have hn : n = 3 := hn
      subst hn
      have hoffs : ∀ o9 : Int, o9 = off → 0 ≤ (pc : Int) + o9 := fun o9 ho9 => by rw [ho9]; exact hj cc9 off (Or.inr rfl)
      simp only [am_misc] at h
      split at h
      · rename_i y x st2
        obtain ⟨w1, l1, e1, e2, w2, l2, e3, e4, e5⟩ := h6
        have e2 : w1 = .int y := e2
        have e4 : w2 = .int x := e4
        subst e2; subst e4; subst e3; subst e1
        by_cases hcnd : am_cmp cc9 x y = true
        · rw [if_pos hcnd] at h
          obtain ⟨t9, ht9, hk9⟩ := sm_to h
          have hgo : am_cmp cc9 x y = true → W p l e Rm s m args below meth c H locs cells slots Q (F0 m t9 jl l2) := fun _ => hk9 _ _ _ _ _ _ _ _ ⟨h0, h1, h2, h3, h4, h5, e5, h7, h8⟩
          have hfall : ¬ am_cmp cc9 x y = true → W p l e Rm s m args below meth c H locs cells slots Q (F0 m (pc + 3) jl l2) := fun q => absurd hcnd q
          cases cc9 with
          | eq =>
            have hnt : am_cmp .eq x y = true ↔ _ := decide_eq_true_iff
            exact lv_icmp_eq hx hb hd (tgt := t9) ht9 (fun hcc => hgo (hnt.mpr hcc)) (fun hcc => hfall (fun q => hcc (hnt.mp q)))
          | ne =>
            have hnt : am_cmp .ne x y = true ↔ _ := decide_eq_true_iff
            exact lv_icmp_ne hx hb hd (tgt := t9) ht9 (fun hcc => hgo (hnt.mpr hcc)) (fun hcc => hfall (fun q => hnt.mp q hcc))
          | lt =>
            have hnt : am_cmp .lt x y = true ↔ _ := decide_eq_true_iff
            exact lv_icmp_lt hx hb hd (tgt := t9) ht9 (fun hcc => hgo (hnt.mpr hcc)) (fun hcc => hfall (fun q => hcc (hnt.mp q)))
          | ge =>
            have hnt : am_cmp .ge x y = true ↔ _ := decide_eq_true_iff
            exact lv_icmp_ge hx hb hd (tgt := t9) ht9 (fun hcc => hgo (hnt.mpr hcc)) (fun hcc => hfall (fun q => hcc (hnt.mp q)))
          | gt =>
            have hnt : am_cmp .gt x y = true ↔ _ := decide_eq_true_iff
            exact lv_icmp_gt hx hb hd (tgt := t9) ht9 (fun hcc => hgo (hnt.mpr hcc)) (fun hcc => hfall (fun q => hcc (hnt.mp q)))
          | le =>
            have hnt : am_cmp .le x y = true ↔ _ := decide_eq_true_iff
            exact lv_icmp_le hx hb hd (tgt := t9) ht9 (fun hcc => hgo (hnt.mpr hcc)) (fun hcc => hfall (fun q => hcc (hnt.mp q)))
        · rw [if_neg hcnd] at h
          have hfall : ¬ am_cmp cc9 x y = true → W p l e Rm s m args below meth c H locs cells slots Q (F0 m (pc + 3) jl l2) := fun _ => h _ _ _ _ _ _ _ _ ⟨h0, h1, h2, h3, h4, h5, e5, h7, h8⟩
          by_cases hoff : 0 ≤ (pc : Int) + off
          · obtain ⟨t9, ht9⟩ : ∃ t9 : Nat, (pc : Int) + off = (t9 : Int) := ⟨((pc : Int) + off).toNat, (Int.toNat_of_nonneg hoff).symm⟩
            have hgo : am_cmp cc9 x y = true → W p l e Rm s m args below meth c H locs cells slots Q (F0 m t9 jl l2) := fun q => absurd q hcnd
            cases cc9 with
            | eq =>
              have hnt : am_cmp .eq x y = true ↔ _ := decide_eq_true_iff
              exact lv_icmp_eq hx hb hd (tgt := t9) ht9 (fun hcc => hgo (hnt.mpr hcc)) (fun hcc => hfall (fun q => hcc (hnt.mp q)))
            | ne =>
              have hnt : am_cmp .ne x y = true ↔ _ := decide_eq_true_iff
              exact lv_icmp_ne hx hb hd (tgt := t9) ht9 (fun hcc => hgo (hnt.mpr hcc)) (fun hcc => hfall (fun q => hnt.mp q hcc))
            | lt =>
              have hnt : am_cmp .lt x y = true ↔ _ := decide_eq_true_iff
              exact lv_icmp_lt hx hb hd (tgt := t9) ht9 (fun hcc => hgo (hnt.mpr hcc)) (fun hcc => hfall (fun q => hcc (hnt.mp q)))
            | ge =>
              have hnt : am_cmp .ge x y = true ↔ _ := decide_eq_true_iff
              exact lv_icmp_ge hx hb hd (tgt := t9) ht9 (fun hcc => hgo (hnt.mpr hcc)) (fun hcc => hfall (fun q => hcc (hnt.mp q)))
            | gt =>
              have hnt : am_cmp .gt x y = true ↔ _ := decide_eq_true_iff
              exact lv_icmp_gt hx hb hd (tgt := t9) ht9 (fun hcc => hgo (hnt.mpr hcc)) (fun hcc => hfall (fun q => hcc (hnt.mp q)))
            | le =>
              have hnt : am_cmp .le x y = true ↔ _ := decide_eq_true_iff
              exact lv_icmp_le hx hb hd (tgt := t9) ht9 (fun hcc => hgo (hnt.mpr hcc)) (fun hcc => hfall (fun q => hcc (hnt.mp q)))
          · exact absurd hoff (not_not_intro (hoffs off rfl))
      · exact h.elim
    | goto off =>
      have hn : n = 3 := hn
      subst hn
      obtain ⟨t9, ht9, hk9⟩ := sm_to (off := off) h
      exact lv_goto hx hb hd ht9 (hk9 _ _ _ _ _ _ _ _ hJ)
    | tableswitch dd lo hi offs =>
      simp only [am_misc] at h
      split at h
      · rename_i x st2
        obtain ⟨w1, l1, e1, e2, e5⟩ := h6
        have e2 : w1 = .int x := e2
        subst e2; subst e1
        split at h
        · rename_i hout
          obtain ⟨t9, ht9, hk9⟩ := sm_to h
          exact lv_tableOut hx hb hd hout ht9 (hk9 _ _ _ _ _ _ _ _ ⟨h0, h1, h2, h3, h4, h5, e5, h7, h8⟩)
        · rename_i hout
          split at h
          · rename_i o9 ho9
            obtain ⟨t9, ht9, hk9⟩ := sm_to h
            exact lv_tableIn hx hb hd (fun q => hout (Or.inl q)) (fun q => hout (Or.inr q)) ho9 ht9 (hk9 _ _ _ _ _ _ _ _ ⟨h0, h1, h2, h3, h4, h5, e5, h7, h8⟩)
          · exact h.elim
      · exact h.elim
    | getstatic j =>
      have hn : n = 3 := hn
      subst hn
      simp only [am_misc] at h
      split at h
      · rename_i v hv
        obtain ⟨C9, n9, d9, w9, g1, g2, g3⟩ := am_sta_ok hoC hex hv
        exact va_gets hx hb (va_Z.narrow g1 hG) h4 hown (hts _ g2) (fun _ h9 => h9) hd (h _ _ _ _ _ _ _ _ ⟨h0, h1, h2, h3, h4, h5, ⟨_, _, rfl, g3 adr, h6⟩, h7, h8⟩)
      · exact h.elim
    | getfield j =>
      have hn : n = 3 := hn
      subst hn
      exact sm_getf F hb hd h hJ
    | putfield j =>
      have hn : n = 3 := hn
      subst hn
      exact sm_putf F hb hd h hJ
    | new j =>
      have hn : n = 3 := hn
      subst hn
      exact sm_new F hb hd h hJ
    | newarray t9 =>
      have hn : n = 2 := hn
      subst hn
      exact sm_newa F hb hd h hJ
    | multianewarray j dd =>
      have hn : n = 4 := hn
      subst hn
      simp only [am_misc] at h
      split at h
      · rename_i hdd
        subst hdd
        exact sm_mna F hb hd h hJ
      · exact h.elim
    | invokevirtual j =>
      have hn : n = 3 := hn
      subst hn
      exact sm_invv F hC hcd hRm hnL hb hd h hJ
    | invokestatic j =>
      have hn : n = 3 := hn
      subst hn
      exact sm_invs F hC hcd hRm hnL hb hd h hJ
    | invokespecial j =>
      have hn : n = 3 := hn
      subst hn
      exact sm_invi F hC hcd hRm hnL hb hd h hJ
    | ireturn =>
      have hn : n = 1 := hn
      subst hn
      have h : am_do call (am_iret k st mem) (am_Sim p l e Rm s m args below meth c Q D A ea nL adr0) R := h
      unfold am_iret at h
      split at h
      · rename_i v h9
        split at h
        · rename_i hrt
          exact (hR pc ls mem H locs cells slots jl js adr ws).1 v hJ h hd (Or.inl hrt)
        · rename_i hrt
          split at h
          · rename_i hv
            exact (hR pc ls mem H locs cells slots jl js adr ws).1 v hJ h hd (Or.inr ⟨Or.inl hrt, hv⟩)
          · exact h.elim
        · rename_i hrt
          split at h
          · rename_i hv
            exact (hR pc ls mem H locs cells slots jl js adr ws).1 v hJ h hd (Or.inr ⟨Or.inr hrt, hv⟩)
          · exact h.elim
        · exact h.elim
      · exact h.elim
    | lreturn =>
      have hn : n = 1 := hn
      subst hn
      have h : am_do call (am_lret k st mem) (am_Sim p l e Rm s m args below meth c Q D A ea nL adr0) R := h
      unfold am_lret at h
      split at h
      · rename_i v h9
        split at h
        · rename_i hrt
          exact (hR pc ls mem H locs cells slots jl js adr ws).2.1 v hJ h hd hrt
        · exact h.elim
      · exact h.elim
    | return_ =>
      have hn : n = 1 := hn
      subst hn
      have h : am_do call (am_vret k st mem) (am_Sim p l e Rm s m args below meth c Q D A ea nL adr0) R := h
      unfold am_vret at h
      split at h
      · split at h
        · rename_i hrt
          exact (hR pc ls mem H locs cells slots jl js adr ws).2.2 hJ h hd hrt
        · exact h.elim
      · exact h.elim
    | _ => exact h.elim

