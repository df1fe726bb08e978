/-! THE PLAIN MACHINE AND THE REAL ONE: which real state stands for a plain one -/
def am_v (adr : List Nat) (ea : Nat → Nat) (v w : Value) : Prop := match v with
  | .int x => w = .int x
  | .long x => w = .long x
  | .null => w = .null
  | .ref k => ∃ a, adr[k]? = some a ∧ w = .ref a
  | .float u => w = .ref (ea u.toNat)
  | _ => False
def am_vs (adr : List Nat) (ea : Nat → Nat) : List Value → List Value → Prop
  | [], ws => ws = []
  | v :: l, ws => ∃ w l', ws = w :: l' ∧ am_v adr ea v w ∧ am_vs adr ea l l'
def am_kt (k : Nat) : FieldType := match k with
  | 0 => .int
  | 1 => .byte
  | _ => .boolean
def am_ce (s : State) (adr : List Nat) (ea : Nat → Nat) (c : am_C) (e : va_E) : Prop := match c with
  | .inl (kd, n, f) => ∃ cA : ClassId, e = .inl (cA, n, .inl f) ∧ ArrOfT s cA (am_kt kd) ∧ va_RA s cA (am_kt kd)
  | .inr (.inl (n, f)) => ∃ cA : ClassId, e = .inl (cA, n, .inr (.inl f)) ∧ ArrOfT s cA .long ∧ va_RA s cA .long
  | .inr (.inr (.inl (n, f))) => ∃ (cA : ClassId) (g : Nat → Option Nat), e = .inl (cA, n, .inr (.inr (.inr (.inr g)))) ∧ ArrOfT s cA (.array .int) ∧ ∀ j k : Nat, j < n → f j = some k → ∃ a, adr[k]? = some a ∧ g j = some a
  | .inr (.inr (.inr (ci, fs))) => ci < am_nO ∧ ∃ gs : List Value, e = .inr (ci, gs) ∧ fs.length = am_N ci ∧ am_vs adr ea fs gs
def am_w (s : State) (adr : List Nat) (ea : Nat → Nat) (hp : List am_C) (ws : va_W) : Prop :=
  adr.length = hp.length ∧ ws.length = hp.length ∧ ∀ (k : Nat) (c : am_C), hp[k]? = some c → ∃ (a : Nat) (e : va_E), adr[k]? = some a ∧ ws[k]? = some (a, e) ∧ am_ce s adr ea c e
def am_ls (adr : List Nat) (ea : Nat → Nat) (nL : Nat) (ls : am_L) (jl : Array Slot) : Prop :=
  ls.length = nL ∧ jl.size = nL ∧ lv_wf jl ∧ ∀ (i : Nat) (v : Value), ls[i]? = some (some v) → ∃ w, jl[i]? = some (.val w) ∧ am_v adr ea v w
/-- what lies outside the cells: the weights, the constant text, a switch of String's, links of nest mates, the class of int[][] -/
def am_ex (base : Nat) (ea : Nat → Nat) (s : State) : Prop :=
  va_Z "HouseKeepers$Match" "DIGIT_WEIGHT" "[J" (.ref (ea 1)) (fun q => base ≤ q) s s.heap ∧ va_T .long (ea 1) 6 (fun j => .long (am_w6 j)) (fun q => base ≤ q) s s.heap ∧
  va_Z "java/lang/String" "COMPACT_STRINGS" "Z" (.int 1) (fun q => base ≤ q) s s.heap ∧
  vk_S 1 [10] [[116, 110, 112, 98, 100, 108, 104, 107, 121, 122]] (fun _ => ea 2) (fun _ => ea 3) (fun q => base ≤ q) s s.heap ∧
  vk_R "HouseKeepers$Rules" 11 "tnpbdlhkyz" (ea 2) s ∧ vk_R "HouseKeepers$Text" 66 "tnpbdlhkyz" (ea 2) s ∧
  (∀ e ∈ am_nst, va_Nw (.methodLinkNest "HouseKeepers" e.1 (am_y e.2) "HouseKeepers") s) ∧ (Cond.arrayOver (.array .int)).before #[] s = true
def am_sx (base : Nat) (ea : Nat → Nat) (X : am_X) (s : State) : Prop := ∀ x, X = some x → va_X (ea 0) x.1 x.2 s s.heap ∧ ea 0 < s.heap.size ∧ ea 0 < base
def am_Fx (p : Program) (s : State) (m : MethodId) (args : Array Value) (meth : Method) (c : Code) (Rm : Room) (k : Nat) (X : am_X) (base : Nat) (ea : Nat → Nat) (A : Nat → Prop) (D : va_G) : Prop :=
  p.tables.exec = Jvm.exec ∧ c.code = am_by k ∧ s.vm.findClass (am_cn (am_own k)) = some m.cls ∧ (∀ w ∈ am_TB, w.before args s = true) ∧ va_K D classes [] s ∧ (∀ q : Nat, s.heap.size ≤ q → A q) ∧ (∀ q : Nat, A q → base ≤ q) ∧ base ≤ s.heap.size ∧ am_ex base ea s ∧ am_sx base ea X s ∧ (am_kd k = 2 → meth.name = "<init>") ∧ c.maxLocals = am_ml k ∧ am_own k < am_nC ∧ 1 ≤ Rm.frames ∧ 60 ≤ Rm.locals
def am_J (s : State) (D : va_G) (A : Nat → Prop) (ea : Nat → Nat) (nL : Nat) (Rm : Room) (adr0 : List Nat) (ls : am_L) (st : List Value) (mem : am_M) (H : Heap) (locs : List Loc) (cells slots : Nat) (jl : Array Slot) (js : List Value) (adr : List Nat) (ws : va_W) : Prop :=
  adr0 <+: adr ∧ am_w s adr ea mem.1 ws ∧ va_P D classes ws H ∧ va_D A ws ∧ va_S A s.heap H locs ∧ am_ls adr ea nL ls jl ∧ am_vs adr ea st js ∧ cells + mem.2.1 ≤ Rm.cells ∧ slots + mem.2.2 ≤ Rm.slots
def am_Sim (p : Program) (l : Launch) (e : Env) (Rm : Room) (s : State) (m : MethodId) (args : Array Value) (below : List Frame) (meth : Method) (c : Code) (Q : State → Prop) (D : va_G) (A : Nat → Prop) (ea : Nat → Nat) (nL : Nat) (adr0 : List Nat) : am_K := fun pc ls st mem =>
  ∀ (H : Heap) (locs : List Loc) (cells slots : Nat) (jl : Array Slot) (js : List Value) (adr : List Nat) (ws : va_W), am_J s D A ea nL Rm adr0 ls st mem H locs cells slots jl js adr ws → W p l e Rm s m args below meth c H locs cells slots Q (F0 m pc jl js)
/-! their plain facts -/
theorem am_px {adr adr' : List Nat} (h : adr <+: adr') {k a : Nat} (hk : adr[k]? = some a) : adr'[k]? = some a := by
  obtain ⟨t, rfl⟩ := h
  have hl := (List.getElem?_eq_some_iff.mp hk).1
  rw [List.getElem?_append_left hl]
  exact hk
theorem am_v.px {adr adr' : List Nat} {ea : Nat → Nat} {v w : Value} (h : adr <+: adr') (hv : am_v adr ea v w) : am_v adr' ea v w := by
  cases v with
  | ref k =>
    obtain ⟨a, h1, h2⟩ := hv
    exact ⟨a, am_px h h1, h2⟩
  | _ => exact hv
theorem am_vs.px {adr adr' : List Nat} {ea : Nat → Nat} (h : adr <+: adr') : ∀ {l ws : List Value}, am_vs adr ea l ws → am_vs adr' ea l ws
  | [], _, hv => hv
  | _ :: _, _, ⟨w, l', e, h1, h2⟩ => ⟨w, l', e, h1.px h, am_vs.px h h2⟩
theorem am_v.cat {adr : List Nat} {ea : Nat → Nat} {v w : Value} (hv : am_v adr ea v w) : w.category = v.category := by
  cases v with
  | ref k =>
    obtain ⟨a, h1, h2⟩ := hv
    rw [h2]; rfl
  | int x => rw [show w = .int x from hv]
  | long x => rw [show w = .long x from hv]
  | null => rw [show w = .null from hv]
  | float u => rw [show w = .ref (ea u.toNat) from hv]; rfl
  | _ => exact absurd hv id
theorem am_vs.cat {adr : List Nat} {ea : Nat → Nat} : ∀ {l ws : List Value}, am_vs adr ea l ws → (ws.map fun v => v.category).sum = am_cat l
  | [], ws, hv => by rw [show ws = [] from hv]; rfl
  | v :: l, ws, ⟨w, l', e, h1, h2⟩ => by
    subst e
    have := am_vs.cat h2
    simp only [am_cat, List.map_cons, List.sum_cons] at this ⊢
    rw [this, h1.cat]
theorem am_vs.len {adr : List Nat} {ea : Nat → Nat} : ∀ {l ws : List Value}, am_vs adr ea l ws → ws.length = l.length
  | [], ws, hv => by rw [show ws = [] from hv]
  | v :: l, ws, ⟨w, l', e, h1, h2⟩ => by subst e; simp [am_vs.len h2]
theorem am_vs.get {adr : List Nat} {ea : Nat → Nat} : ∀ {l ws : List Value}, am_vs adr ea l ws → ∀ {k : Nat} {v : Value}, l[k]? = some v → ∃ w, ws[k]? = some w ∧ am_v adr ea v w
  | [], _, _, k, v, h => by simp at h
  | x :: l, ws, ⟨w, l', e, h1, h2⟩, k, v, h => by
    subst e
    cases k with
    | zero => simp at h; subst h; exact ⟨w, by simp, h1⟩
    | succ k => simp at h; obtain ⟨w', a, b⟩ := am_vs.get h2 h; exact ⟨w', by simpa using a, b⟩
theorem am_vs.set {adr : List Nat} {ea : Nat → Nat} : ∀ {l ws : List Value}, am_vs adr ea l ws → ∀ {k : Nat} {v w : Value}, am_v adr ea v w → am_vs adr ea (l.set k v) (ws.set k w)
  | [], ws, hv, k, v, w, _ => by rw [show ws = [] from hv]; simp [am_vs]
  | x :: l, ws, ⟨w', l', e, h1, h2⟩, k, v, w, h => by
    subst e
    cases k with
    | zero => exact ⟨w, l', rfl, h, h2⟩
    | succ k => exact ⟨w', l'.set k w, rfl, h1, am_vs.set h2 h⟩
theorem am_vs.app {adr : List Nat} {ea : Nat → Nat} : ∀ {l ws l2 ws2 : List Value}, am_vs adr ea l ws → am_vs adr ea l2 ws2 → am_vs adr ea (l ++ l2) (ws ++ ws2)
  | [], ws, _, _, hv, h2 => by rw [show ws = [] from hv]; exact h2
  | x :: l, ws, _, _, ⟨w', l', e, h1, h3⟩, h2 => by subst e; exact ⟨w', _, rfl, h1, am_vs.app h3 h2⟩
theorem am_vs.take {adr : List Nat} {ea : Nat → Nat} : ∀ {l ws : List Value}, am_vs adr ea l ws → ∀ n, am_vs adr ea (l.take n) (ws.take n)
  | [], ws, hv, n => by rw [show ws = [] from hv]; simp [am_vs]
  | x :: l, ws, ⟨w', l', e, h1, h2⟩, n => by
    subst e
    cases n with
    | zero => simp [am_vs]
    | succ n => exact ⟨w', l'.take n, rfl, h1, am_vs.take h2 n⟩
theorem am_vs.drop {adr : List Nat} {ea : Nat → Nat} : ∀ {l ws : List Value}, am_vs adr ea l ws → ∀ n, am_vs adr ea (l.drop n) (ws.drop n)
  | [], ws, hv, n => by rw [show ws = [] from hv]; simp [am_vs]
  | x :: l, ws, ⟨w', l', e, h1, h2⟩, n => by
    subst e
    cases n with
    | zero => exact ⟨w', l', rfl, h1, h2⟩
    | succ n => exact am_vs.drop h2 n
theorem am_vs.rev {adr : List Nat} {ea : Nat → Nat} : ∀ {l ws : List Value}, am_vs adr ea l ws → am_vs adr ea l.reverse ws.reverse
  | [], ws, hv => by rw [show ws = [] from hv]; simp [am_vs]
  | x :: l, ws, ⟨w', l', e, h1, h2⟩ => by
    subst e
    rw [List.reverse_cons, List.reverse_cons]
    exact (am_vs.rev h2).app ⟨w', [], rfl, h1, rfl⟩
theorem am_ce.px {s : State} {adr adr' : List Nat} {ea : Nat → Nat} (h : adr <+: adr') {c : am_C} {e : va_E} (hc : am_ce s adr ea c e) : am_ce s adr' ea c e := by
  match c, hc with
  | .inl (kd, n, f), hc => exact hc
  | .inr (.inl (n, f)), hc => exact hc
  | .inr (.inr (.inl (n, f))), ⟨cA, g, h1, h2, h3⟩ =>
    refine ⟨cA, g, h1, h2, fun j k hj hk => ?_⟩
    obtain ⟨a, b1, b2⟩ := h3 j k hj hk
    exact ⟨a, am_px h b1, b2⟩
  | .inr (.inr (.inr (ci, fs))), ⟨h1, gs, h2, h3, h4⟩ => exact ⟨h1, gs, h2, h3, h4.px h⟩
theorem am_ce.moved {s U : State} (hvm : s.vm.Alike U.vm) {adr : List Nat} {ea : Nat → Nat} {c : am_C} {e : va_E} (hc : am_ce s adr ea c e) : am_ce U adr ea c e := by
  match c, hc with
  | .inl (kd, n, f), ⟨cA, h1, h2, h3⟩ => exact ⟨cA, h1, arrOfT_moved hvm h2, h3.moved hvm⟩
  | .inr (.inl (n, f)), ⟨cA, h1, h2, h3⟩ => exact ⟨cA, h1, arrOfT_moved hvm h2, h3.moved hvm⟩
  | .inr (.inr (.inl (n, f))), ⟨cA, g, h1, h2, h3⟩ => exact ⟨cA, g, h1, arrOfT_moved hvm h2, h3⟩
  | .inr (.inr (.inr (ci, fs))), hc => exact hc
theorem am_w.moved {s U : State} (hvm : s.vm.Alike U.vm) {adr : List Nat} {ea : Nat → Nat} {hp : List am_C} {ws : va_W} (h : am_w s adr ea hp ws) : am_w U adr ea hp ws := by
  refine ⟨h.1, h.2.1, fun k c hk => ?_⟩
  obtain ⟨a, e, h1, h2, h3⟩ := h.2.2 k c hk
  exact ⟨a, e, h1, h2, h3.moved hvm⟩
/-- a cell is changed -/
theorem am_w.set {s : State} {adr : List Nat} {ea : Nat → Nat} {hp : List am_C} {ws : va_W} (h : am_w s adr ea hp ws) {k a : Nat} {e : va_E} {c' : am_C} {e' : va_E} (hk : ws[k]? = some (a, e)) (hc : am_ce s adr ea c' e') : am_w s adr ea (hp.set k c') (ws.set k (a, e')) := by
  obtain ⟨h1, h2, h3⟩ := h
  have hl : k < ws.length := (List.getElem?_eq_some_iff.mp hk).1
  refine ⟨by rw [List.length_set]; exact h1, by rw [List.length_set, List.length_set]; exact h2, fun j c hj => ?_⟩
  by_cases hjk : j = k
  · subst hjk
    have hlp : j < hp.length := by omega
    rw [List.getElem?_set_self hlp] at hj
    cases hj
    obtain ⟨a', e2, g1, g2, -⟩ := h3 j _ (List.getElem?_eq_getElem hlp)
    rw [hk] at g2
    cases g2
    exact ⟨a, e', g1, List.getElem?_set_self hl, hc⟩
  · rw [List.getElem?_set_ne (Ne.symm hjk)] at hj
    obtain ⟨a', e2, g1, g2, g3⟩ := h3 j c hj
    exact ⟨a', e2, g1, by rw [List.getElem?_set_ne (Ne.symm hjk)]; exact g2, g3⟩
/-- cells are made -/
theorem am_w.add {s : State} {adr : List Nat} {ea : Nat → Nat} {hp : List am_C} {ws : va_W} (h : am_w s adr ea hp ws) {as : List Nat} {cs : List am_C} {es : va_W} (h1 : as.length = cs.length) (h2 : es.length = cs.length)
    (h3 : ∀ (k : Nat) (c : am_C), cs[k]? = some c → ∃ (a : Nat) (e : va_E), as[k]? = some a ∧ es[k]? = some (a, e) ∧ am_ce s (adr ++ as) ea c e) : am_w s (adr ++ as) ea (hp ++ cs) (ws ++ es) := by
  obtain ⟨g1, g2, g3⟩ := h
  refine ⟨by simp [g1, h1], by simp [g2, h2], fun k c hk => ?_⟩
  by_cases hl : k < hp.length
  · rw [List.getElem?_append_left hl] at hk
    obtain ⟨a, e, q1, q2, q3⟩ := g3 k c hk
    exact ⟨a, e, by rw [List.getElem?_append_left (by omega)]; exact q1, by rw [List.getElem?_append_left (by omega)]; exact q2, q3.px (List.prefix_append _ _)⟩
  · rw [List.getElem?_append_right (by omega)] at hk
    obtain ⟨a, e, q1, q2, q3⟩ := h3 _ c hk
    exact ⟨a, e, by rw [List.getElem?_append_right (by omega), g1]; exact q1, by rw [List.getElem?_append_right (by omega), g2]; exact q2, q3⟩
theorem am_ls.px {adr adr' : List Nat} {ea : Nat → Nat} (h : adr <+: adr') {nL : Nat} {ls : am_L} {jl : Array Slot} (hl : am_ls adr ea nL ls jl) : am_ls adr' ea nL ls jl := by
  refine ⟨hl.1, hl.2.1, hl.2.2.1, fun i v hi => ?_⟩
  obtain ⟨w, h1, h2⟩ := hl.2.2.2 i v hi
  exact ⟨w, h1, h2.px h⟩
theorem am_get_spec {ls : am_L} {j : Nat} {v : Value} (h : am_get ls j = some v) : ls[j]? = some (some v) := by
  unfold am_get at h
  split at h
  · cases h; assumption
  · cases h
theorem am_ls.at {adr : List Nat} {ea : Nat → Nat} {nL : Nat} {ls : am_L} {jl : Array Slot} (hl : am_ls adr ea nL ls jl) {j : Nat} {v : Value} (h : am_get ls j = some v) : ∃ w, jl[j]? = some (.val w) ∧ am_v adr ea v w := hl.2.2.2 j v (am_get_spec h)
theorem am_le_len : ∀ {l l' : am_L}, am_le l l' → l.length = l'.length
  | [], [], _ => rfl
  | none :: l, _ :: l', h => by simp [am_le_len (l := l) (l' := l') h]
  | some v :: l, w :: l', h => by simp [am_le_len h.2]
theorem am_le_get : ∀ {l l' : am_L}, am_le l l' → ∀ {i : Nat} {v : Value}, l[i]? = some (some v) → l'[i]? = some (some v)
  | [], [], _, i, v, h => by simp at h
  | none :: l, x :: l', h, i, v, hi => by
    cases i with
    | zero => simp at hi
    | succ i => simp at hi ⊢; exact am_le_get (l := l) (l' := l') h hi
  | some u :: l, w :: l', h, i, v, hi => by
    cases i with
    | zero => simp at hi ⊢; rw [h.1, hi]
    | succ i => simp at hi ⊢; exact am_le_get h.2 hi
theorem am_ls.le {adr : List Nat} {ea : Nat → Nat} {nL : Nat} {ls ls' : am_L} {jl : Array Slot} (h : am_le ls' ls) (hl : am_ls adr ea nL ls jl) : am_ls adr ea nL ls' jl :=
  ⟨(am_le_len h).trans hl.1, hl.2.1, hl.2.2.1, fun i v hi => hl.2.2.2 i v (am_le_get h hi)⟩
/-- all the locals that are known, as the kit's rows take them -/
theorem am_has {adr : List Nat} {ea : Nat → Nat} {nL : Nat} {ls : am_L} {jl : Array Slot} (h : am_ls adr ea nL ls jl) : ∃ lv : List (Nat × Value), lv_has jl nL lv ∧ ∀ (i : Nat) (v w : Value), ls[i]? = some (some v) → jl[i]? = some (.val w) → (i, w) ∈ lv := by
  refine ⟨(List.range nL).filterMap (fun i : Nat => match (jl[i]? : Option Slot) with
    | some (Slot.val w) => some (i, w)
    | _ => none), ⟨h.2.1, h.2.2.1, fun q hq => ?_⟩, fun i v w hi hw => ?_⟩
  · obtain ⟨i, -, hi⟩ := List.mem_filterMap.mp hq
    split at hi
    · cases hi; assumption
    · cases hi
  · have hlt : i < nL := by
      have := (List.getElem?_eq_some_iff.mp hi).1
      rw [h.1] at this
      exact this
    exact List.mem_filterMap.mpr ⟨i, List.mem_range.mpr hlt, by rw [hw]⟩
theorem am_ls.put {adr : List Nat} {ea : Nat → Nat} {nL : Nat} {ls : am_L} {jl jl' : Array Slot} {lv : List (Nat × Value)} {j : Nat} {v w : Value} (h : am_ls adr ea nL ls jl) (hpl : am_pl ls j = true) (hv : am_v adr ea v w)
    (hc : ∀ (i : Nat) (v w : Value), ls[i]? = some (some v) → jl[i]? = some (.val w) → (i, w) ∈ lv) (h' : lv_has jl' nL ((j, w) :: lv.filter (fun q => !(q.1 == j) && !(q.1 + 1 == j && q.2.category == 2)))) : am_ls adr ea nL (ls.set j (some v)) jl' := by
  refine ⟨by rw [List.length_set]; exact h.1, h'.1, h'.2.1, fun i u hi => ?_⟩
  by_cases hij : i = j
  · subst hij
    have hl : i < ls.length := by
      have := (List.getElem?_eq_some_iff.mp hi).1
      rw [List.length_set] at this
      exact this
    rw [List.getElem?_set_self hl] at hi
    cases hi
    exact ⟨w, h'.2.2 (i, w) List.mem_cons_self, hv⟩
  · rw [List.getElem?_set_ne (Ne.symm hij)] at hi
    obtain ⟨w', g1, g2⟩ := h.2.2.2 i u hi
    refine ⟨w', h'.2.2 (i, w') (List.mem_cons_of_mem _ (List.mem_filter.mpr ⟨hc i u w' hi g1, ?_⟩)), g2⟩
    simp only [Bool.and_eq_true, Bool.not_eq_true', beq_eq_false_iff_ne, ne_eq, Bool.and_eq_false_iff]
    refine ⟨hij, ?_⟩
    by_cases hp : i + 1 = j
    · refine Or.inr ?_
      subst hp
      have hg : am_get ls i = some u := by unfold am_get; rw [hi]
      rw [g2.cat]
      simp only [am_pl, hg] at hpl
      cases u with
      | long x => exact absurd hpl Bool.false_ne_true
      | double x => exact g2.elim
      | _ => exact fun q => absurd (show (1 : Nat) = 2 from q) (by decide)
    · exact Or.inl hp
theorem am_ls.put2 {adr : List Nat} {ea : Nat → Nat} {nL : Nat} {ls : am_L} {jl jl' : Array Slot} {lv : List (Nat × Value)} {j : Nat} {v w : Value} (h : am_ls adr ea nL ls jl) (hpl : am_pl ls j = true) (hv : am_v adr ea v w)
    (hc : ∀ (i : Nat) (v w : Value), ls[i]? = some (some v) → jl[i]? = some (.val w) → (i, w) ∈ lv) (h' : lv_has jl' nL ((j, w) :: lv.filter (fun q => !(q.1 == j) && (!(q.1 == j + 1) && !(q.1 + 1 == j && q.2.category == 2))))) : am_ls adr ea nL ((ls.set j (some v)).set (j + 1) none) jl' := by
  refine ⟨by rw [List.length_set, List.length_set]; exact h.1, h'.1, h'.2.1, fun i u hi => ?_⟩
  by_cases hij1 : i = j + 1
  · subst hij1
    have hl : j + 1 < (ls.set j (some v)).length := by
      have := (List.getElem?_eq_some_iff.mp hi).1
      rw [List.length_set] at this
      exact this
    rw [List.getElem?_set_self hl] at hi
    cases hi
  · rw [List.getElem?_set_ne (Ne.symm hij1)] at hi
    by_cases hij : i = j
    · subst hij
      have hl : i < ls.length := by
        have := (List.getElem?_eq_some_iff.mp hi).1
        rw [List.length_set] at this
        exact this
      rw [List.getElem?_set_self hl] at hi
      cases hi
      exact ⟨w, h'.2.2 (i, w) List.mem_cons_self, hv⟩
    · rw [List.getElem?_set_ne (Ne.symm hij)] at hi
      obtain ⟨w', g1, g2⟩ := h.2.2.2 i u hi
      refine ⟨w', h'.2.2 (i, w') (List.mem_cons_of_mem _ (List.mem_filter.mpr ⟨hc i u w' hi g1, ?_⟩)), g2⟩
      simp only [Bool.and_eq_true, Bool.not_eq_true', beq_eq_false_iff_ne, ne_eq, Bool.and_eq_false_iff]
      refine ⟨hij, hij1, ?_⟩
      by_cases hp : i + 1 = j
      · refine Or.inr ?_
        subst hp
        have hg : am_get ls i = some u := by unfold am_get; rw [hi]
        rw [g2.cat]
        simp only [am_pl, hg] at hpl
        cases u with
      | long x => exact absurd hpl Bool.false_ne_true
      | double x => exact g2.elim
      | _ => exact fun q => absurd (show (1 : Nat) = 2 from q) (by decide)
      · exact Or.inl hp
theorem am_in_vp {i : Int32} {n : Nat} (h : am_in i n = true) : vp_in i n := by
  simp only [am_in, Bool.and_eq_true, Bool.not_eq_true', decide_eq_false_iff_not, decide_eq_true_eq] at h
  intro q
  rcases q with q | q
  · exact h.1 q
  · omega
theorem am_K1 {D : va_G} {s : State} {cA : ClassId} {ty : FieldType} (hK : va_K D classes [] s) (h1 : ArrOfT s cA ty) (h2 : va_RA s cA ty) : va_K D classes [(cA, ty)] s := by
  refine ⟨hK.1, fun k q hk => ?_⟩
  cases k with
  | zero => simp at hk; subst hk; exact ⟨h1, h2⟩
  | succ k => simp at hk
