/-- WHAT IS LEFT TO SHOW: on the plain machine the law answers 1 -/
def am_Goal : Prop := ∀ (L : Nat) (xs : Nat → Int32), L ≤ 2560 → am_Run (some (L, xs)) (am_meth 60) am_law (fun v _ => v = some (.int 1)) 0 [some (.float 0), none, none, none] [] ([], 600000, 7302250)
def am_DecL : Prop := ∀ (pc : Nat) (i : Instr) (n : Nat), am_code am_law pc = some (i, n) → decode (am_by am_law) pc = .ok (i, n)
def am_JpL : Prop := ∀ (pc : Nat) (i : Instr) (n : Nat), am_code am_law pc = some (i, n) → ∀ (cc9 : Jvm.ClassFile.Cond) (off : Int), i = .ifCond cc9 off ∨ i = .if_icmp cc9 off → 0 ≤ (pc : Int) + off
theorem am_k_lw : am_by am_law = code ∧ am_ml am_law = 4 ∧ am_cn (am_own am_law) = R_law ∧ am_rt am_law = some .boolean ∧ am_kd am_law = 1 ∧ am_own am_law < am_nC := ⟨rfl, rfl, rfl, rfl, rfl, by decide⟩
set_option maxHeartbeats 2000000 in
theorem am_whole {p : Program} {e : Env} {s : State} {m : MethodId} {below : List Frame} {meth : Method} {c : Code} (hcd : am_Codes) (hdc : am_Decs) (hjp : am_Jps) (hdl : am_DecL) (hjl : am_JpL) (hgoal : am_Goal) (l : Launch) {b L : Nat} {xs : Nat → Int32} (hL : L ≤ 2560) (C0 : lw_At p s m meth c b L xs) : W p l e room_1 s m #[Value.ref b] below meth c s.heap [] 0 0 (lw_Z below #[Value.ref b] s) (entryFrame m ([Value.ref b] : List Value).toArray 4) := by
  obtain ⟨hx, hb, hr, hml, hown, hts, hX, hbl, hlocks, hgv⟩ := C0
  obtain ⟨ea, hea, hex⟩ := am_start hts hgv
  have htb : ∀ w ∈ am_TB, w.before #[Value.ref b] s = true := fun w hw => hts w (List.mem_filter.mp hw).1
  have hch : ∀ ci : Nat, ∃ q : ClassId × (Nat → Nat), ci < am_nO → u_Kn s (am_cn ci) (am_F ci) (am_N ci) q.1 q.2 := by
    intro ci
    by_cases h : ci < am_nO
    · obtain ⟨cC, iS, hK⟩ := u_known (C := am_cn ci) (T := am_F ci) (N := am_N ci) htb (am_uws h) (htb _ (am_cok_of h).1)
      exact ⟨(cC, iS), fun _ => hK⟩
    · exact ⟨(0, fun _ => 0), fun q => absurd q h⟩
  obtain ⟨f, hf⟩ := Classical.axiomOfChoice hch
  have hK : va_K (fun ci => (f ci).1, fun ci => (f ci).2) classes [] s := by
    refine ⟨fun ci q hq => ?_, fun k q h => by simp at h⟩
    have hl : ci < am_nO := by
      have := (List.getElem?_eq_some_iff.mp hq).1
      unfold classes at this
      rw [List.length_map, List.length_range] at this
      exact this
    rw [am_cls_at hl] at hq
    cases hq
    exact hf ci hl
  have F : am_Fx p s m #[Value.ref b] meth c room_1 am_law (some (L, xs)) s.heap.size ea (fun q : Nat => s.heap.size ≤ q) (fun ci => (f ci).1, fun ci => (f ci).2) :=
    ⟨hx, hb, hown, htb, hK, fun _ h => h, fun _ h => h, Nat.le_refl _, hex, fun x hx9 => by cases hx9; rw [hea]; exact ⟨hX, hbl, hbl⟩, fun h => absurd (am_k_lw.2.2.2.2.1.symm.trans h) (by decide), hml, am_k_lw.2.2.2.2.2, Nat.le_of_ble_eq_true rfl, Nat.le_of_ble_eq_true rfl⟩
  have hRt : am_Rt p l e room_1 s m #[Value.ref b] below meth c (lw_Z below #[Value.ref b] s) (fun ci => (f ci).1, fun ci => (f ci).2) (fun q : Nat => s.heap.size ≤ q) ea 4 [] am_law (fun v _ => v = some (.int 1)) := by
    intro pc ls mem H locs cells slots jl js adr2 ws2
    refine ⟨fun x hJ hRR hd hrt => ?_, fun x hJ hRR hd hrt => ?_, fun hJ hRR hd hrt => ?_⟩
    · obtain ⟨h0, h1, h2, h3, h4, h5, ⟨w9, l9, e1, e2, e3⟩, h7, h8⟩ := hJ
      have e2 : w9 = .int x := e2
      have e3 : l9 = [] := e3
      subst e2; subst e3; subst e1
      cases hRR
      have h7 : cells + mem.2.1 ≤ 600000 := h7
      have h8 : slots + mem.2.2 ≤ 7302250 := h8
      refine va_forget (fun q hq => h4.2.2 q hq) ?_
      refine W.widen (k := 600000) (n := 7302250) (by omega) (by omega) ?_
      exact lw_ret hx hb hr hlocks hd
    · cases hRR
    · cases hRR
  have hS := hgoal L xs hL _ (am_sim (nL := 4) (adr0 := []) F (am_calls l s.heap.size ea _ hcd hdc hjp 60) hcd ⟨Nat.le_of_ble_eq_true rfl, Nat.le_of_ble_eq_true rfl⟩ rfl hdl hjl hRt) am_weakS
  rw [lg_entry_eq]
  refine hS s.heap [] 0 0 _ [] [] [] ⟨List.prefix_refl _, ⟨rfl, rfl, fun k c hk => by simp at hk⟩, fun k q h => by simp at h, ⟨fun i j p q h => by simp at h, fun k q h => by simp at h⟩, va_S.rf, ?_, rfl, Nat.le_of_ble_eq_true rfl, Nat.le_of_ble_eq_true rfl⟩
  exact am_ent_ls (as := [.float 0]) (jas := [.ref b]) (n := 4) ⟨_, _, rfl, by show Value.ref b = .ref (ea 0); rw [hea], rfl⟩ (by decide)
