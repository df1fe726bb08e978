/-! at the start: the reference's loops, the relation, the law -/
def s_h0 (n : Nat) : Nat → Int32 := fun j => if j < n then (if j / 10 = j % 10 then 0 else 24) else 0
theorem h0_s {n : Nat} : upd (s_h0 n) n (if n / 10 = n % 10 then 0 else 24) = s_h0 (n + 1) := funext (fun j => by
  rw [am_uat]
  unfold s_h0
  by_cases e : j = n
  · rw [if_pos e, if_pos (show j < n + 1 by omega), e]
  · rw [if_neg e]
    by_cases c : j < n
    · rw [if_pos c, if_pos (show j < n + 1 by omega)]
    · rw [if_neg c, if_neg (show ¬ j < n + 1 by omega)])
theorem h0_e {n : Nat} {v : Int32} (h : v = if n / 10 = n % 10 then 0 else 24) : upd (s_h0 n) n v = s_h0 (n + 1) := by rw [h, h0_s]
theorem up_up {α : Type} {I : Nat → α} {c : Nat} {f g : α} : va_up (va_up I c f) c g = va_up I c g := funext (fun j => by
  rw [am_vat, am_vat, am_vat]
  by_cases e : j = c
  · rw [if_pos e, if_pos e]
  · rw [if_neg e, if_neg e, if_neg e])
theorem up_id {α : Type} {I : Nat → α} {c : Nat} {f : α} (h : f = I c) : va_up I c f = I := funext (fun j => by
  rw [am_vat]
  by_cases e : j = c
  · rw [if_pos e, e, h]
  · rw [if_neg e])
theorem up_at {α : Type} {I : Nat → α} {c : Nat} {f : α} : va_up I c f c = f := if_pos rfl
def am_I2 : am_V := va_up (va_up (va_up (va_up am_I1 115 (s_h0 100)) 116 (am_fi (fun _ => 0) 180 5)) 124 (am_fi (fun _ => 0) 1 620)) 132 (am_fi (fun _ => 0) (-1) 120)
section NM
variable {d : Nat} {I : am_V} {L : Nat → Nat → Int64} {R : am_R}
theorem n_446 (h : R none (am_mk (va_up I 132 (am_fi (I 132) (-1) 120)) L, 0, 0)) : am_Run am_X0 (am_meth d) 149 R 446 [some (.ref 113), some (.int 0), none] [] (am_mk I L, 0, 0) := by
  have key := am_up (P := fun a => am_Run am_X0 (am_meth d) 149 R 446 [some (.ref 113), some (.int (nI a)), none] [] (am_mk (va_up I 132 (am_fi (I 132) (-1) a)) L, 0, 0)) (n := 120) ?_ (fun a ha ih => ?_)
  · rw [fl_0, up_id rfl] at key; exact key
  · exact r_M_init_446 ⟨fun c => absurd c (by decide), fun _ => h⟩
  · refine r_M_init_446 ⟨fun _ => ⟨ha, ?_⟩, fun c => absurd (nI_lt (b := 120) ha (by decide)) c⟩
    rintro _ rfl
    rw [up_up, up_at, fl_s]; exact ih
theorem n_424 (h : am_Run am_X0 (am_meth d) 149 R 446 [some (.ref 113), some (.int 0), none] [] (am_mk (va_up I 124 (am_fi (I 124) 1 620)) L, 0, 0)) : am_Run am_X0 (am_meth d) 149 R 424 [some (.ref 113), some (.int 0), none] [] (am_mk I L, 0, 0) := by
  have key := am_up (P := fun a => am_Run am_X0 (am_meth d) 149 R 424 [some (.ref 113), some (.int (nI a)), none] [] (am_mk (va_up I 124 (am_fi (I 124) 1 a)) L, 0, 0)) (n := 620) ?_ (fun a ha ih => ?_)
  · rw [fl_0, up_id rfl] at key; exact key
  · exact r_M_init_424 ⟨fun c => absurd c (by decide), fun _ => h⟩
  · refine r_M_init_424 ⟨fun _ => ⟨ha, ?_⟩, fun c => absurd (nI_lt (b := 620) ha (by decide)) c⟩
    rintro _ rfl
    rw [up_up, up_at, fl_s]; exact ih
theorem n_402 (h : am_Run am_X0 (am_meth d) 149 R 424 [some (.ref 113), some (.int 0), none] [] (am_mk (va_up I 116 (am_fi (I 116) 180 5)) L, 0, 0)) : am_Run am_X0 (am_meth d) 149 R 402 [some (.ref 113), some (.int 0), none] [] (am_mk I L, 0, 0) := by
  have key := am_up (P := fun a => am_Run am_X0 (am_meth d) 149 R 402 [some (.ref 113), some (.int (nI a)), none] [] (am_mk (va_up I 116 (am_fi (I 116) 180 a)) L, 0, 0)) (n := 5) ?_ (fun a ha ih => ?_)
  · rw [fl_0, up_id rfl] at key; exact key
  · exact r_M_init_402 ⟨fun c => absurd c (by decide), fun _ => h⟩
  · refine r_M_init_402 ⟨fun _ => ⟨ha, ?_⟩, fun c => absurd (nI_lt (b := 5) ha (by decide)) c⟩
    rintro _ rfl
    rw [up_up, up_at, fl_s]; exact ih
theorem n_352 (h0 : I 115 = fun _ => 0) (h : am_Run am_X0 (am_meth d) 149 R 402 [some (.ref 113), some (.int 0), none] [] (am_mk (va_up I 115 (s_h0 100)) L, 0, 0)) : am_Run am_X0 (am_meth d) 149 R 352 [some (.ref 113), some (.int 0), none] [] (am_mk I L, 0, 0) := by
  have key := am_up (P := fun a => am_Run am_X0 (am_meth d) 149 R 352 [some (.ref 113), some (.int (nI a)), none] [] (am_mk (va_up I 115 (s_h0 (10 * a))) L, 0, 0)) (n := 10) ?_ (fun a ha ih => ?_)
  · rw [up_id (show s_h0 (10 * 0) = I 115 from h0.symm ▸ rfl)] at key; exact key
  · exact r_M_init_352 ⟨fun c => absurd c (by decide), fun _ => h⟩
  · refine r_M_init_352 ⟨fun _ => ?_, fun c => absurd (nI_lt (b := 10) ha (by decide)) c⟩
    have key := am_up (P := fun c => am_Run am_X0 (am_meth d) 149 R 360 [some (.ref 113), some (.int (nI a)), some (.int (nI c))] [] (am_mk (va_up I 115 (s_h0 (10 * a + c))) L, 0, 0)) (n := 10) ?_ (fun c hc ih2 => ?_)
    · exact key
    · exact r_M_init_360 ⟨fun c => absurd c (by decide), fun _ => ih⟩
    · refine r_M_init_360 ⟨fun _ => ⟨fun e => ?_, fun e => ?_⟩, fun z => absurd (nI_lt (b := 10) hc (by decide)) z⟩
      · rw [nI_eq (by omega) (by omega)] at e
        refine ⟨10 * a + c, by omega, am_10, ?_⟩
        rintro _ rfl
        rw [up_up, up_at, h0_e (by rw [if_pos (by omega)])]; exact ih2
      · rw [nI_eq (by omega) (by omega)] at e
        refine ⟨10 * a + c, by omega, am_10, ?_⟩
        rintro _ rfl
        rw [up_up, up_at, h0_e (by rw [if_neg (by omega)])]; exact ih2
end NM
theorem n_M {d : Nat} {R : am_R} (hd : 1 ≤ d) (h : R none (am_mk am_I2 am_L1, 0, 0)) : am_meth d 149 [.ref 113] ((am_mk am_I1 am_L1).take 113 ++ [.inr (.inr (.inr (12, [.int 0, .null, .null, .null, .int 0, .null, .null, .null, .null, .null, .int 0, .null, .null, .null, .int 0, .null, .null, .null, .null, .null, .null, .null, .null, .null, .int 0, .int 0, .null, .null, .null, .null, .null, .null, .null, .null, .null, .null, .null, .null, .null, .int 0, .null, .int 0, .null, .null, .null, .null, .null, .null, .null, .null, .int 0, .int 0, .null])))], 43, 5450) R := by
  obtain ⟨d, rfl⟩ : ∃ e, d = e + 1 := ⟨d - 1, by omega⟩
  refine ar_in (ls := [some (.ref 113), none, none]) rfl rfl rfl (n_M1 rfl rfl ?_)
  refine ar_iconst (v := 0) (q := 351) rfl rfl rfl ?_
  refine ar_istore_n (j := 1) (ls' := [some (.ref 113), some (.int 0), none]) (q := 352) rfl rfl rfl rfl rfl ?_
  refine n_352 rfl (n_402 (n_424 (n_446 ?_)))
  exact h
