/-! chains: sets as numbers, sorting, what could be taken -/
theorem bt_nI {s k : Nat} (hk : k < 32) : am_bt (nI s) k = s.testBit k := by
  show (BitVec.ofNat 32 s).getLsbD k = _
  rw [BitVec.getLsbD_ofNat, decide_eq_true hk, Bool.true_and]
theorem nI_or {s t : Nat} : nI s ||| nI t = nI (s ||| t) := by
  refine bt_ext (fun k hk => ?_)
  have e : am_bt (nI s ||| nI t) k = (am_bt (nI s) k || am_bt (nI t) k) := by
    show ((nI s ||| nI t).toBitVec).getLsbD k = _
    rw [Int32.toBitVec_or, BitVec.getLsbD_or]; rfl
  rw [e, bt_nI hk, bt_nI hk, bt_nI hk, Nat.testBit_or]
theorem sh_2 {a : Nat} (ha : a < 31) : (1 : Int32) <<< (nI a &&& 31) = nI (2 ^ a) := by
  refine bt_ext (fun k hk => ?_)
  rw [bt_sh (by omega) hk, bt_nI hk, Nat.testBit_two_pow]
  by_cases e : k = a
  · subst e; rw [decide_eq_true rfl]
  · rw [decide_eq_false e, decide_eq_false (fun q => e q.symm)]
theorem or_lt {s a n : Nat} (hs : s < 2 ^ n) (ha : a < n) : s ||| 2 ^ a < 2 ^ n := Nat.or_lt_two_pow hs (Nat.pow_lt_pow_right (by decide) ha)
theorem or_bt {s a b : Nat} : (s ||| 2 ^ a).testBit b = (s.testBit b || decide (a = b)) := by
  rw [Nat.testBit_or, Nat.testBit_two_pow]
/-! sorting -/
def s_ins (f : Nat → Nat) (x : Nat) : List Nat → List Nat
  | [] => [x]
  | y :: ys => if f x < f y then x :: y :: ys else y :: s_ins f x ys
def s_srt (f : Nat → Nat) : Nat → List Nat
  | 0 => []
  | n + 1 => s_ins f n (s_srt f n)
def s_srp (f : Nat → Nat) (p : Nat → Bool) : Nat → List Nat
  | 0 => []
  | n + 1 => if p n = true then s_ins f n (s_srp f p n) else s_srp f p n
def w_sd (f : Nat → Nat) (l : List Nat) : Prop := l.Pairwise (fun a b => f a ≤ f b)
theorem ins_mem {f : Nat → Nat} {x a : Nat} : ∀ {l : List Nat}, a ∈ s_ins f x l ↔ a = x ∨ a ∈ l
  | [] => by simp [s_ins]
  | y :: ys => by
    unfold s_ins
    split
    · simp
    · rw [List.mem_cons, ins_mem, List.mem_cons]
      constructor
      · rintro (h | h | h)
        · exact Or.inr (Or.inl h)
        · exact Or.inl h
        · exact Or.inr (Or.inr h)
      · rintro (h | h | h)
        · exact Or.inr (Or.inl h)
        · exact Or.inl h
        · exact Or.inr (Or.inr h)
theorem ins_sd {f : Nat → Nat} {x : Nat} : ∀ {l : List Nat}, w_sd f l → w_sd f (s_ins f x l)
  | [], _ => List.pairwise_singleton _ _
  | y :: ys, h => by
    unfold s_ins
    have h' := List.pairwise_cons.mp h
    split
    · rename_i c
      refine List.pairwise_cons.mpr ⟨fun z hz => ?_, h⟩
      rcases List.mem_cons.mp hz with e | e
      · subst e; omega
      · have := h'.1 z e; omega
    · rename_i c
      refine List.pairwise_cons.mpr ⟨fun z hz => ?_, ins_sd h'.2⟩
      rcases ins_mem.mp hz with e | e
      · subst e; omega
      · exact h'.1 z e
theorem srt_sd {f : Nat → Nat} : ∀ n, w_sd f (s_srt f n)
  | 0 => List.Pairwise.nil
  | n + 1 => ins_sd (srt_sd n)
theorem srt_mem {f : Nat → Nat} {a : Nat} : ∀ {n : Nat}, a ∈ s_srt f n ↔ a < n
  | 0 => by simp [s_srt]
  | n + 1 => by
    show a ∈ s_ins f n (s_srt f n) ↔ _
    rw [ins_mem, srt_mem]; omega
theorem ins_len {f : Nat → Nat} {x : Nat} : ∀ {l : List Nat}, (s_ins f x l).length = l.length + 1
  | [] => rfl
  | y :: ys => by
    unfold s_ins
    split
    · rfl
    · rw [List.length_cons, ins_len, List.length_cons]
theorem srt_len {f : Nat → Nat} : ∀ n, (s_srt f n).length = n
  | 0 => rfl
  | n + 1 => by
    show (s_ins f n (s_srt f n)).length = _
    rw [ins_len, srt_len n]
theorem ins_nd {f : Nat → Nat} {x : Nat} : ∀ {l : List Nat}, x ∉ l → l.Nodup → (s_ins f x l).Nodup
  | [], _, _ => by simp [s_ins]
  | y :: ys, hx, h => by
    unfold s_ins
    have h' := List.nodup_cons.mp h
    split
    · exact List.nodup_cons.mpr ⟨hx, h⟩
    · refine List.nodup_cons.mpr ⟨fun q => ?_, ins_nd (fun q => hx (List.mem_cons_of_mem _ q)) h'.2⟩
      rcases ins_mem.mp q with e | e
      · exact hx (by rw [e]; exact List.mem_cons_self)
      · exact h'.1 e
theorem srt_nd {f : Nat → Nat} : ∀ n, (s_srt f n).Nodup
  | 0 => List.nodup_nil
  | n + 1 => ins_nd (fun q => by have := srt_mem.mp q; omega) (srt_nd n)
theorem ins_fl {f : Nat → Nat} {p : Nat → Bool} {x : Nat} : ∀ {l : List Nat}, w_sd f l → (s_ins f x l).filter p = if p x = true then s_ins f x (l.filter p) else l.filter p
  | [], _ => by
    unfold s_ins
    by_cases h : p x = true
    · rw [if_pos h, List.filter_cons_of_pos h]; rfl
    · rw [if_neg h, List.filter_cons_of_neg h]
  | y :: ys, hs => by
    have h' := List.pairwise_cons.mp hs
    have ih := ins_fl (p := p) (x := x) h'.2
    by_cases c : f x < f y
    · have e1 : s_ins f x (y :: ys) = x :: y :: ys := by unfold s_ins; rw [if_pos c]
      rw [e1]
      by_cases h : p x = true
      · rw [if_pos h, List.filter_cons_of_pos h]
        have : ∀ l : List Nat, (∀ z, z ∈ l → f x < f z) → s_ins f x l = x :: l := by
          intro l hl
          match l, hl with
          | [], _ => rfl
          | z :: zs, hl => unfold s_ins; rw [if_pos (hl z List.mem_cons_self)]
        rw [this]
        intro z hz
        have hz := (List.mem_filter.mp hz).1
        rcases List.mem_cons.mp hz with e | e
        · subst e; exact c
        · have := h'.1 z e; omega
      · rw [if_neg h, List.filter_cons_of_neg h]
    · have e1 : s_ins f x (y :: ys) = y :: s_ins f x ys := by
        conv => lhs; unfold s_ins
        rw [if_neg c]
      rw [e1]
      by_cases hy : p y = true
      · rw [List.filter_cons_of_pos hy, List.filter_cons_of_pos hy, ih]
        by_cases h : p x = true
        · rw [if_pos h, if_pos h]
          conv => rhs; unfold s_ins
          rw [if_neg c]
        · rw [if_neg h, if_neg h]
      · rw [List.filter_cons_of_neg hy, List.filter_cons_of_neg hy, ih]
theorem srp_fl {f : Nat → Nat} {p : Nat → Bool} : ∀ n, s_srp f p n = (s_srt f n).filter p
  | 0 => rfl
  | n + 1 => by
    show (if p n = true then s_ins f n (s_srp f p n) else s_srp f p n) = (s_ins f n (s_srt f n)).filter p
    rw [ins_fl (srt_sd n), srp_fl n]
theorem srp_sd {f : Nat → Nat} {p : Nat → Bool} (n : Nat) : w_sd f (s_srp f p n) := by
  rw [srp_fl]; exact List.Pairwise.filter _ (srt_sd n)
theorem srp_mem {f : Nat → Nat} {p : Nat → Bool} {a n : Nat} (h : a ∈ s_srp f p n) : a < n := by
  rw [srp_fl] at h; exact srt_mem.mp (List.mem_filter.mp h).1
theorem srp_len {f : Nat → Nat} {p : Nat → Bool} (n : Nat) : (s_srp f p n).length ≤ n := by
  rw [srp_fl]
  have := List.length_filter_le p (s_srt f n)
  rw [srt_len] at this; exact this
theorem ins_at {f : Nat → Nat} {x : Nat} : ∀ {l : List Nat} {j : Nat}, w_sd f l → j ≤ l.length → (∀ i y, j ≤ i → l[i]? = some y → f x < f y) → (∀ i y, j = i + 1 → l[i]? = some y → ¬ f x < f y) → s_ins f x l = l.take j ++ x :: l.drop j
  | [], j, _, hj, _, _ => by
    have : j = 0 := Nat.le_zero.mp hj
    subst this; rfl
  | y :: ys, 0, _, _, h1, _ => by
    have := h1 0 y (Nat.le_refl _) rfl
    unfold s_ins; rw [if_pos this]; rfl
  | y :: ys, j + 1, hs, hj, h1, h2 => by
    have h' := List.pairwise_cons.mp hs
    have hj : j + 1 ≤ ys.length + 1 := hj
    have c : ¬ f x < f y := by
      intro c
      have hl : j < (y :: ys).length := hj
      have e : (y :: ys)[j]? = some (y :: ys)[j] := List.getElem?_eq_getElem hl
      refine h2 j _ rfl e ?_
      have hm : (y :: ys)[j] ∈ y :: ys := List.getElem_mem hl
      rcases List.mem_cons.mp hm with e2 | e2
      · rw [e2]; exact c
      · have := h'.1 _ e2; omega
    have ih := ins_at (x := x) (l := ys) (j := j) h'.2 (by omega) (fun i z hi e => h1 (i + 1) z (by omega) e) (fun i z hi e => h2 (i + 1) z (by omega) e)
    conv => lhs; unfold s_ins
    rw [if_neg c, ih]; rfl
/-! an array that holds a list; one that is being shifted -/
def w_ar (A g : Nat → Int32) (l : List Nat) : Prop := ∀ j y, l[j]? = some y → A j = g y
def w_sh (A g : Nat → Int32) (l : List Nat) (a : Nat) : Prop := (∀ j y, j < a → l[j]? = some y → A j = g y) ∧ ∀ j y, a ≤ j → l[j]? = some y → A (j + 1) = g y
theorem sh_0 {A g : Nat → Int32} {l : List Nat} (h : w_ar A g l) : w_sh A g l l.length := ⟨fun j y _ e => h j y e, fun j y hj e => by rw [List.getElem?_eq_none hj] at e; cases e⟩
theorem sh_s {A g : Nat → Int32} {l : List Nat} {a : Nat} (h : w_sh A g l (a + 1)) : w_sh (upd A (a + 1) (A a)) g l a := by
  refine ⟨fun j y hj e => ?_, fun j y hj e => ?_⟩
  · rw [upd_ne (by omega)]; exact h.1 j y (by omega) e
  · by_cases q : j = a
    · subst q; rw [upd_at]; exact h.1 j y (by omega) e
    · rw [upd_ne (by omega)]; exact h.2 j y (by omega) e
theorem sh_e {A g : Nat → Int32} {l : List Nat} {a x : Nat} (h : w_sh A g l a) (ha : a ≤ l.length) : w_ar (upd A a (g x)) g (l.take a ++ x :: l.drop a) := by
  intro j y e
  have lt : (l.take a).length = a := by rw [List.length_take]; omega
  rcases Nat.lt_trichotomy j a with q | q | q
  · rw [List.getElem?_append_left (by omega), List.getElem?_take_of_lt q] at e
    rw [upd_ne (by omega)]; exact h.1 j y q e
  · subst q
    rw [List.getElem?_append_right (by omega), lt, Nat.sub_self] at e
    rw [upd_at]
    have e : some x = some y := e
    cases e; rfl
  · rw [List.getElem?_append_right (by omega), lt, show j - a = (j - 1 - a) + 1 from by omega, List.getElem?_cons_succ, List.getElem?_drop, show a + (j - 1 - a) = j - 1 from by omega] at e
    rw [upd_ne (by omega)]
    have := h.2 (j - 1) y (by omega) e
    rw [show j - 1 + 1 = j from by omega] at this; exact this
