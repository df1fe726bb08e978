def R_law : String := "HouseKeepersLaw"
def lw_P (b : Addr) (xs : List Int32) (args : Array Value) (s : State) : Prop := args = #[.ref b] ∧ s.IntsAt b xs ∧ xs.length ≤ 2560 ∧ (Jvm.Cond.and given_1 narrow_1).before args s = true
def lw_Q (_ : Array Value) (s : State) (o : Outcome) (t : State) : Prop := o = .returned (some (.int 1)) ∧ Framed s o t [] 600000 7302250
def lw_Z (below : List Frame) (a : Array Value) (s : State) : State → Prop := fun t => ∃ o, t.status = .running ∧ Ended t below o ∧ lw_Q a s o t
/-- the law's own end, with 1 on the stack, nothing written that was there before, its room as the claim has it -/
theorem lw_ret {p : Program} {l : Launch} {e : Env} {s : State} {m : MethodId} {below : List Frame} {meth : Method} {c : Code} {b : Nat} (hx : p.tables.exec = Jvm.exec) (hb : c.code = code) (hr : meth.sig.returnType = ret) (hlocks : meth.locks = false) {pc : Nat} {H : Heap} {ls : Array Slot} (hdg : decode code pc = .ok (.ireturn, 1)) : W p l e room_1 s m #[Value.ref b] below meth c H [] 600000 7302250 (lw_Z below #[Value.ref b] s) (F0 m pc ls [.int 1]) := by
  intro T hT X
  obtain ⟨fs, hret, hrun, hended, hW, hframe⟩ := X.leave (v := some (.int 1)) (hlocks := hlocks) (fun h => by rw [hr] at h; cases h)
  have hmeth' : T.vm.method? m = some meth := X.method'
  refine ⟨T.setFrames fs, ?_, .returned (some (.int 1)), hrun, hended, rfl, ⟨_, rfl⟩, hW, hframe⟩
  jvm_step X.here [X.here.top, hx, hb, hdg, hmeth', hr, ret, narrow_b1]
  (try refine ⟨rfl, ?_⟩); (try refine ⟨rfl, ?_⟩)
  first | (intro acts; rw [hret _ acts rfl rfl rfl]) | rw [hret _ _ rfl rfl rfl]
  exact Steps.refl _
/-- what holds at the law's entry -/
def lw_At (p : Program) (s : State) (m : MethodId) (meth : Method) (c : Code) (b L : Nat) (xs : Nat → Int32) : Prop :=
  p.tables.exec = Jvm.exec ∧ c.code = code ∧ meth.sig.returnType = ret ∧ c.maxLocals = 4 ∧ s.vm.findClass R_law = some m.cls ∧ (∀ w ∈ lw_tbl, w.before #[Value.ref b] s = true) ∧ va_X b L xs s s.heap ∧ b < s.heap.size ∧ meth.locks = false ∧ (Jvm.Cond.and given_1 narrow_1).before #[Value.ref b] s = true
/-- two texts that are one object -/
theorem am_eqS {args : Array Value} {s : State} {t1 t2 : Term} {a : Nat} (h : (Cond.eq t1 t2).before args s = true) (h1 : t1.eval args s none [] s = some (.ref a)) : t2.eval args s none [] s = some (.ref a) := by
  cases h2 : t2.eval args s none [] s with
  | none => simp [Cond.before, Cond.holds, Cond.value, h1, h2] at h
  | some w =>
    simp only [Cond.before, Cond.holds, Cond.value, h1, h2] at h
    cases w <;> simp_all
def am_ty : List Int32 := [116, 110, 112, 98, 100, 108, 104, 107, 121, 122]
theorem am_k_ns : ∀ e ∈ am_nst, Cond.methodLinkNest "HouseKeepers" e.1 (am_y e.2) "HouseKeepers" ∈ lw_tbl := by decide +kernel
/-- what the Statement gives of the start, as the plain machine wants it -/
theorem am_start {s : State} {b : Nat} (hts : ∀ w ∈ lw_tbl, w.before #[Value.ref b] s = true) (hgv : (Jvm.Cond.and given_1 narrow_1).before #[Value.ref b] s = true) : ∃ ea : Nat → Nat, ea 0 = b ∧ am_ex s.heap.size ea s := by
  have hs := flat_of_before _ hgv
  have hA : ∀ a : Nat, a < s.heap.size → ¬ (fun q : Nat => s.heap.size ≤ q) a := fun a h => Nat.not_le.mpr h
  obtain ⟨t, ht, hT⟩ := va_Tof (args := #[Value.ref b]) (s := s) (tm := .static "HouseKeepers$Match" "DIGIT_WEIGHT" "[J") (ty := .long) (N := 6) (f := fun j => .long (am_w6 j)) (A := fun q : Nat => s.heap.size ≤ q) (by decide) (hs _ (by decide +kernel)) (va_eqt (hs (Cond.eq (.length (.static "HouseKeepers$Match" "DIGIT_WEIGHT" "[J")) (.int 6)) (by decide +kernel)))
    (fun j hj => by
      match j, hj with
      | 0, _ => exact va_eqtl (hs (Cond.eq (.elem (.static "HouseKeepers$Match" "DIGIT_WEIGHT" "[J") (.int 0)) (.long 4084101)) (by decide +kernel))
      | 1, _ => exact va_eqtl (hs (Cond.eq (.elem (.static "HouseKeepers$Match" "DIGIT_WEIGHT" "[J") (.int 1)) (.long 194481)) (by decide +kernel))
      | 2, _ => exact va_eqtl (hs (Cond.eq (.elem (.static "HouseKeepers$Match" "DIGIT_WEIGHT" "[J") (.int 2)) (.long 9261)) (by decide +kernel))
      | 3, _ => exact va_eqtl (hs (Cond.eq (.elem (.static "HouseKeepers$Match" "DIGIT_WEIGHT" "[J") (.int 3)) (.long 441)) (by decide +kernel))
      | 4, _ => exact va_eqtl (hs (Cond.eq (.elem (.static "HouseKeepers$Match" "DIGIT_WEIGHT" "[J") (.int 4)) (.long 21)) (by decide +kernel))
      | 5, _ => exact va_eqtl (hs (Cond.eq (.elem (.static "HouseKeepers$Match" "DIGIT_WEIGHT" "[J") (.int 5)) (.long 1)) (by decide +kernel))
      | j + 6, h => omega) hA
  have hZ1 := va_Zref (A := fun q : Nat => s.heap.size ≤ q) (hts (.laysStatic "HouseKeepers$Match" "DIGIT_WEIGHT" "[J") (by decide +kernel)) (hts (.initialized "HouseKeepers$Match") (by decide +kernel)) ht hA
  have hZ2 := va_Zof (A := fun q : Nat => s.heap.size ≤ q) (hts (.laysStatic "java/lang/String" "COMPACT_STRINGS" "Z") (by decide +kernel)) (hts (.initialized "java/lang/String") (by decide +kernel)) (va_eqt (hs (Cond.eq (.static "java/lang/String" "COMPACT_STRINGS" "Z") (.int 1)) (by decide +kernel))) hA
  obtain ⟨adK, adV, hS, hev⟩ := vk_Sof (args := #[Value.ref b]) (s := s) (N := 1) (tm := fun _ => .string "HouseKeepers$Rules" 11) (len := [10]) (byt := [am_ty]) (A := fun q : Nat => s.heap.size ≤ q) (by decide)
    (fun i hi => hs _ (by decide +kernel))
    (fun i hi => hs _ (by decide +kernel))
    (fun i hi => hs _ (by decide +kernel))
    (fun i hi => by
      have : i = 0 := by omega
      subst this
      exact hs (Cond.eq (.length (.field (.string "HouseKeepers$Rules" 11) "java/lang/String" "value" "[B")) (.int 10)) (by decide +kernel))
    (fun i hi j hj => by
      have : i = 0 := by omega
      subst this
      have hj : j < 10 := hj
      match j, hj with
      | 0, _ => exact hs (Cond.eq (.elem (.field (.string "HouseKeepers$Rules" 11) "java/lang/String" "value" "[B") (.int 0)) (.int 116)) (by decide +kernel)
      | 1, _ => exact hs (Cond.eq (.elem (.field (.string "HouseKeepers$Rules" 11) "java/lang/String" "value" "[B") (.int 1)) (.int 110)) (by decide +kernel)
      | 2, _ => exact hs (Cond.eq (.elem (.field (.string "HouseKeepers$Rules" 11) "java/lang/String" "value" "[B") (.int 2)) (.int 112)) (by decide +kernel)
      | 3, _ => exact hs (Cond.eq (.elem (.field (.string "HouseKeepers$Rules" 11) "java/lang/String" "value" "[B") (.int 3)) (.int 98)) (by decide +kernel)
      | 4, _ => exact hs (Cond.eq (.elem (.field (.string "HouseKeepers$Rules" 11) "java/lang/String" "value" "[B") (.int 4)) (.int 100)) (by decide +kernel)
      | 5, _ => exact hs (Cond.eq (.elem (.field (.string "HouseKeepers$Rules" 11) "java/lang/String" "value" "[B") (.int 5)) (.int 108)) (by decide +kernel)
      | 6, _ => exact hs (Cond.eq (.elem (.field (.string "HouseKeepers$Rules" 11) "java/lang/String" "value" "[B") (.int 6)) (.int 104)) (by decide +kernel)
      | 7, _ => exact hs (Cond.eq (.elem (.field (.string "HouseKeepers$Rules" 11) "java/lang/String" "value" "[B") (.int 7)) (.int 107)) (by decide +kernel)
      | 8, _ => exact hs (Cond.eq (.elem (.field (.string "HouseKeepers$Rules" 11) "java/lang/String" "value" "[B") (.int 8)) (.int 121)) (by decide +kernel)
      | 9, _ => exact hs (Cond.eq (.elem (.field (.string "HouseKeepers$Rules" 11) "java/lang/String" "value" "[B") (.int 9)) (.int 122)) (by decide +kernel)
      | j + 10, h => omega)
    (fun i j hi hj hij => absurd (show i = j by omega) hij) hA
  have e0 := hev 0 Nat.zero_lt_one
  have e1 := am_eqS (hs (Cond.eq (.string "HouseKeepers$Rules" 11) (.string "HouseKeepers$Text" 66)) (by decide +kernel)) e0
  refine ⟨fun j => if j = 0 then b else if j = 1 then t else if j = 2 then adK 0 else adV 0, rfl, hZ1, hT, hZ2, ⟨fun i hi => ?_, fun i j hi hj _ => by omega⟩, vk_R.of (hts (.stringRef "HouseKeepers$Rules" 11 "tnpbdlhkyz") (by decide +kernel)) e0, vk_R.of (hts (.stringRef "HouseKeepers$Text" 66 "tnpbdlhkyz") (by decide +kernel)) e1, fun e he => ?_, hts _ (List.mem_of_getElem? am_k_ao)⟩
  · have : i = 0 := by omega
    subst this
    exact hS.1 0 Nat.zero_lt_one
  · exact va_Nw.of rfl (hts _ (am_k_ns e he))
