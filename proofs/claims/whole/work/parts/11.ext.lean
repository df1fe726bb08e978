/-! what lies outside the cells stays, from call to call -/
theorem am_ao_moved {u U : State} (hvm : u.vm.Alike U.vm) (h : (Cond.arrayOver (.array .int)).before #[] u = true) : (Cond.arrayOver (.array .int)).before #[] U = true := by
  have h' := h
  unfold Cond.before Cond.holds at h'
  simp only [Cond.value, beq_iff_eq] at h'
  cases hc : u.vm.findClass (FieldType.array .int).toString with
  | none => simp [hc] at h'
  | some comp =>
    rw [hc, Option.bind_some] at h'
    obtain ⟨c, hi, h2⟩ := Option.bind_eq_some_iff.mp h'
    obtain ⟨k, hk, h3⟩ := Option.map_eq_some_iff.mp h2
    obtain ⟨k', hk', he⟩ := hvm.2.2 _ _ hk
    have hi2 : (U.vm.classes.findIdx? fun (x : Class) => match x.kind with | .array component _ => component == comp | _ => false) = some c := by
      have e1 := va_idx_bare U.vm comp
      have e2 := va_idx_bare u.vm comp
      have e3 : U.vm.bare = u.vm.bare := by first | exact hvm.bare_eq | exact hvm.bare_eq.symm
      rw [e3] at e1
      exact e1.symm.trans (e2.trans hi)
    have hkind : k'.kind = k.kind := by rw [he]
    unfold Cond.before Cond.holds
    simp only [Cond.value]
    rw [hvm.findClass, hc, Option.bind_some]
    refine (congrArg (fun o : Option Nat => (o.bind (fun c => (U.vm.classes[c]?).map fun (k : Class) => match k.kind with | .array _ ty => decide (ty = FieldType.array .int) && decide (U.vm.findClass ("[" ++ (FieldType.array .int).toString) = some c) | _ => false) == some true)) hi2).trans ?_
    simp only [Option.bind_some, hk', Option.map_some, hkind, hvm.findClass]
    exact (congrArg (fun b : Bool => (some b == some true)) h3).trans rfl
theorem am_ex.same {base : Nat} {ea : Nat → Nat} {s U : State} (hv : U.vm = s.vm) (hH : U.heap = s.heap) (h : am_ex base ea s) : am_ex base ea U := by
  have ha : s.vm.Alike U.vm := by rw [hv]; exact Vm.Alike.refl _
  obtain ⟨h1, h2, h3, h4, h5, h6, h7, h8⟩ := h
  refine ⟨?_, ?_, ?_, ?_, vk_R.same hv h5, vk_R.same hv h6, fun e he => va_Nw.same rfl hv.symm (h7 e he), am_ao_moved ha h8⟩
  · rw [hH]; exact va_Z.moved ha h1
  · rw [hH]; exact va_T.moved ha h2
  · rw [hH]; exact va_Z.moved ha h3
  · rw [hH]; exact vk_S.moved ha h4
theorem am_ex.warm {base : Nat} {ea : Nat → Nat} {s U : State} (hW : s.WarmedH U.vm) (hH : ∀ q : Nat, q < s.heap.size → ¬ base ≤ q → U.heap[q]? = s.heap[q]?) (h : am_ex base ea s) : am_ex base ea U := by
  have ha : s.vm.Alike U.vm := hW.alike
  obtain ⟨h1, h2, h3, h4, h5, h6, h7, h8⟩ := h
  exact ⟨va_Z.moved ha (h1.kept hH), va_T.moved ha (h2.kept hH), va_Z.moved ha (h3.kept hH), vk_S.moved ha (h4.kept hH), vk_R.warm hW h5, vk_R.warm hW h6, fun e he => va_Nw.warmM hW (h7 e he), am_ao_moved ha h8⟩
/-- which cells a callee may change -/
def am_A (adr : List Nat) (sz : Nat) : Nat → Prop := fun q => q ∈ adr ∨ sz ≤ q
/-- what a method finds -/
def am_In (base : Nat) (ea : Nat → Nat) (D : va_G) (adr : List Nat) (hp : List am_C) (U : State) : Prop :=
  base ≤ U.heap.size ∧ (∀ q ∈ adr, base ≤ q) ∧ (∃ ws, am_w U adr ea hp ws ∧ va_P D classes ws U.heap ∧ va_D (fun _ => True) ws) ∧ va_K D classes [] U ∧ am_ex base ea U
def am_ov (adr : List Nat) (ea : Nat → Nat) (v w : Option Value) : Prop := am_vs adr ea v.toList w.toList
/-- what it leaves -/
def am_Out (base : Nat) (ea : Nat → Nat) (D : va_G) (adr : List Nat) (sz : Nat) (R : am_R) : Array Value → State → Outcome → State → Prop := fun _ st oc t =>
  (∃ (v w : Option Value) (mem : am_M) (adr2 : List Nat) (ws : va_W), oc = .returned w ∧ R v mem ∧ adr <+: adr2 ∧ am_ov adr2 ea v w ∧ am_w t adr2 ea mem.1 ws ∧ va_P D classes ws t.heap ∧ va_D (am_A adr sz) ws) ∧ va_F (am_A adr sz) st t
def am_wsM (k : Nat) : List Cond := Cond.code (am_y k) (am_by k) (am_ml k) (am_rt k) :: am_TB
def am_rm (d k : Nat) : Room := { frames := d + 1, cells := am_bc k, slots := am_bs k, locals := 60 * (d + 1) }
/-- the method k, begun so, meets what the plain machine says of it -/
def am_MetS (l : Launch) (base : Nat) (ea : Nat → Nat) (D : va_G) (d k : Nat) (as : List Value) (mem : am_M) (R : am_R) : Prop :=
  ∀ (adr : List Nat) (jas : List Value) (sz : Nat), am_vs adr ea as jas → Met l (am_y k) (am_wsM k) (am_rm d k) (va_Pc jas (fun U => U.heap.size = sz ∧ am_In base ea D adr mem.1 U)) (am_Out base ea D adr sz R) (am_bc k) (am_bs k) (am_A adr sz)
theorem am_blind {base : Nat} {ea : Nat → Nat} {D : va_G} {adr : List Nat} {hp : List am_C} {jas : List Value} {sz : Nat} : FrameBlind (va_Pc jas (fun U => U.heap.size = sz ∧ am_In base ea D adr hp U)) := by
  intro a U g mk h
  obtain ⟨h0, h1, h2, h3, ⟨ws, h4, h5, h6⟩, h7, h8⟩ := h
  have ha : U.vm.Alike (U.calling g mk a).vm := Vm.Alike.refl U.vm
  exact ⟨h0, h1, h2, h3, ⟨ws, h4.moved ha, h5, h6⟩, va_K.moved ha h7, am_ex.same rfl rfl h8⟩
