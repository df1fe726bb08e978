/-! a term's steps: the class's stack -/
theorem nI_60 (t i : Nat) : nI t * 60 + nI i = nI (60 * t + i) := by
  rw [show (60 : Int32) = nI 60 from rfl, show nI t * nI 60 = nI (t * 60) from (Int32.ofNat_mul t 60).symm, nI_add, Nat.mul_comm]
theorem nI_m1 (n : Nat) : nI (n + 1) + (-1) = nI n := by
  rw [← nI_pred n]; exact (Int32.sub_eq_add_neg _ _).symm
def s_un (lt : Nat → Int32) (x : Int32) : Int64 := if x - 100000 < 0 then x.toInt64 else if x - 100000 < 10 then (lt (x - 100000).toNatClampNeg).toInt64 else x.toInt64
def s_jo (x : Int32) : List Int64 → List Int64
  | b :: a :: r => s_held (s_jn (-x) a b) :: r
  | r => r
def s_stp (lt : Nat → Int32) (stk : List Int64) (x : Int32) : List Int64 := if x < 0 then s_jo x stk else s_un lt x :: stk
def s_fold (lt : Nat → Int32) (c : List Int32) (stk : List Int64) : List Int64 := c.foldl (s_stp lt) stk
/-- steps that lay one value on the stack -/
def w_val (lt : Nat → Int32) (c : List Int32) (v : Int64) : Prop := ∀ stk, s_fold lt c stk = v :: stk
theorem fold_app {lt : Nat → Int32} {c c' : List Int32} {stk : List Int64} : s_fold lt (c ++ c') stk = s_fold lt c' (s_fold lt c stk) := by
  unfold s_fold; exact List.foldl_append
theorem stp_len {lt : Nat → Int32} {x : Int32} {stk : List Int64} : (s_stp lt stk x).length ≤ stk.length + 1 := by
  unfold s_stp
  split
  · match stk with
    | [] => exact Nat.le_succ _
    | [a] => exact Nat.le_succ _
    | b :: a :: r => simp only [s_jo, List.length_cons]; omega
  · exact Nat.le_refl _
theorem fold_len {lt : Nat → Int32} {c : List Int32} : ∀ {stk : List Int64}, (s_fold lt c stk).length ≤ stk.length + c.length := by
  induction c with
  | nil => exact fun {stk} => Nat.le_refl _
  | cons x c ih =>
    intro stk
    have h1 := ih (stk := s_stp lt stk x)
    have h2 := stp_len (lt := lt) (x := x) (stk := stk)
    have e : s_fold lt (x :: c) stk = s_fold lt c (s_stp lt stk x) := rfl
    rw [e, List.length_cons]; omega
def w_sk (L : Nat → Nat → Int64) : List Int64 → Prop
  | [] => True
  | x :: r => L 90 r.length = x ∧ w_sk L r
theorem sk_up {L : Nat → Nat → Int64} {p : Nat} {z : Int64} : ∀ {stk : List Int64}, stk.length ≤ p → w_sk L stk → w_sk (va_up L 90 (vp_updL (L 90) p z)) stk
  | [], _, _ => trivial
  | x :: r, hp, h => by
    have hp : r.length + 1 ≤ p := hp
    refine ⟨?_, sk_up (by omega) h.2⟩
    show (if r.length = p then z else L 90 r.length) = x
    rw [if_neg (by omega)]; exact h.1
section VA2
variable {d : Nat} {I V : am_V} {L : Nat → Nat → Int64} {R : am_R}
theorem ok_Te_valueOf {t : Nat} {code : List Int32} {lt : Nat → Int32} {v : Int64} (hd : 4 ≤ d) (ht : t < 30) (h88 : I 88 t = nI code.length) (hl : code.length ≤ 60) (h89 : ∀ j c, code[j]? = some c → I 89 (60 * t + j) = c) (hlt : ∀ j, j < 10 → I 100 j = lt j) (hv : w_val lt code v) (h : ∀ L', R (some (.int v.toInt32)) (am_mk I L', 0, 0)) : am_meth d 128 [.ref 85, .int (nI t), .ref 100] (am_mk I L, 0, 0) R := by
  obtain ⟨d, rfl⟩ : ∃ e, d = e + 1 := ⟨d - 1, by omega⟩
  refine ar_in rfl rfl rfl (r_Terms_valueOf_0 ?_)
  refine am_up (P := fun i => ∀ L, w_sk L (s_fold lt (code.take i) []) → am_Run am_X0 (am_meth d) 128 R 5 [some (.ref 85), some (.int (nI t)), some (.ref 100), some (.int (nI (s_fold lt (code.take i) []).length)), some (.int (nI i)), none] [] (am_mk I L, 0, 0)) (n := code.length) (fun L hk => ?_) (fun i hi ih L hk => ?_) L trivial
  · refine r_Terms_valueOf_5 ⟨ht, fun c => absurd (h88 ▸ c) (nI_nlt (Nat.le_refl _) (by omega)), fun _ => ?_⟩
    rw [List.take_length, hv] at hk
    have e : L 90 0 = v := hk.1
    rw [e]; exact h L
  · obtain ⟨c, ec⟩ : ∃ c, code[i]? = some c := ⟨code[i], List.getElem?_eq_getElem hi⟩
    have e9 := h89 i c ec
    have et : s_fold lt (code.take (i + 1)) [] = s_stp lt (s_fold lt (code.take i) []) c := by
      rw [List.take_add_one, ec, fold_app]; rfl
    have hp : (s_fold lt (code.take i) []).length ≤ i := by
      have h1 := fold_len (lt := lt) (c := code.take i) (stk := [])
      have h2 : (code.take i).length ≤ i := by rw [List.length_take]; omega
      have h3 : ([] : List Int64).length = 0 := rfl
      omega
    rw [et] at ih
    generalize s_fold lt (code.take i) [] = stk at ih hk hp
    refine r_Terms_valueOf_5 ⟨ht, fun _ => ⟨60 * t + i, by omega, nI_60 t i, fun cn => ?_, fun cn => ?_⟩, fun c => absurd (by rw [h88]; exact nI_lt hi (by omega)) c⟩
    · rw [e9] at cn
      unfold s_stp at ih
      rw [if_pos cn] at ih
      match stk, ih, hk, hp with
      | [], ih, hk, _ => exact ⟨fun _ => ih L hk, fun c => absurd (show nI 0 < 2 by decide) c⟩
      | [a], ih, hk, _ => exact ⟨fun _ => ih L hk, fun c => absurd (show nI 1 < 2 by decide) c⟩
      | b :: a :: r, ih, hk, hp =>
        have hp : r.length + 1 + 1 ≤ i := hp
        have hb : L 90 (r.length + 1) = b := hk.1
        have ha : L 90 r.length = a := hk.2.1
        have l1 : (b :: a :: r).length = r.length + 1 + 1 := rfl
        rw [l1]
        refine ⟨fun c => absurd c (nI_nlt (b := 2) (by omega) (by omega)), fun _ => ⟨r.length, by omega, by rw [nI_m1, nI_pred], r.length + 1, by omega, nI_m1 _, ?_⟩⟩
        rw [e9, hb, ha]
        refine ok_Te_joined (by omega) ⟨_, _, _, rfl, rfl, ok_Te_held (by omega) ⟨_, _, _, rfl, rfl, ?_⟩⟩
        rintro _ rfl
        rw [nI_m1]
        refine ih _ ⟨?_, sk_up (Nat.le_refl _) hk.2.2⟩
        show (if r.length = r.length then _ else _) = _
        rw [if_pos rfl]
    · rw [e9] at cn
      unfold s_stp at ih
      rw [if_neg cn] at ih
      refine ⟨fun _ => ?_, fun c => absurd (nI_lt (b := 60) (by omega) (by decide)) c⟩
      rw [e9]
      have eu : (if c - 100000 < 0 then c.toInt64 else if c - 100000 < 10 then (I 100 (c - 100000).toNatClampNeg).toInt64 else c.toInt64) = s_un lt c := by
        unfold s_un
        by_cases c1 : c - 100000 < 0
        · rw [if_pos c1, if_pos c1]
        · by_cases c2 : c - 100000 < 10
          · obtain ⟨j, hj, e⟩ := am_nat (x := c - 100000) (m := 10) ⟨Int32.not_lt.mp c1, c2⟩ (by decide)
            rw [if_neg c1, if_neg c1, if_pos c2, if_pos c2, e, nI_clamp (by omega), hlt j hj]
          · rw [if_neg c1, if_neg c1, if_neg c2, if_neg c2]
      refine ok_Te_unit (by omega) ⟨_, _, _, rfl, rfl, by omega, ?_⟩
      rintro _ rfl
      rw [eu]
      refine ih _ ⟨?_, sk_up (Nat.le_refl _) hk⟩
      show (if stk.length = stk.length then _ else _) = _
      rw [if_pos rfl]
end VA2
