/-! pairs: what happens when keepers ask -/
abbrev s_St : Type := (Nat → Option Nat) × (Nat → Nat → Bool)
def s_hp (V : am_V) (st : s_St) (k : Nat) : Bool := s_any (fun p => decide (st.1 p = some k)) (s_rl V)
def s_nx (S : Nat → Bool) (pr : Nat → Nat → Bool) : Nat → Option Nat
  | 0 => none
  | p + 1 => if S p = true then (match s_nx S pr p with
    | none => some p
    | some q => if pr p q = true then some p else some q) else s_nx S pr p
theorem nx_lt {S : Nat → Bool} {pr : Nat → Nat → Bool} : ∀ {n j : Nat}, s_nx S pr n = some j → j < n ∧ S j = true
  | 0, _, h => nomatch h
  | n + 1, j, h => by
    unfold s_nx at h
    split at h
    · rename_i c
      split at h
      · injection h with e; subst e; exact ⟨by omega, c⟩
      · rename_i i hi
        split at h
        · injection h with e; subst e; exact ⟨by omega, c⟩
        · injection h with e; subst e; have := nx_lt hi; exact ⟨by omega, this.2⟩
    · have := nx_lt h; exact ⟨by omega, this.2⟩
def s_pp (V : am_V) (k : Nat) : Option Nat → Bool
  | none => true
  | some q => s_prf V k q
def s_ak (V : am_V) (k : Nat) (st : s_St) (p : Nat) : s_St := (fun y => if y = p ∧ s_pp V k (st.1 p) = true then some k else st.1 y, fun x y => st.2 x y || decide (x = k ∧ y = p))
def s_sk (V : am_V) (k : Nat) (st : s_St) : s_St × Bool := if s_hp V st k = true then (st, false) else match s_nx (fun p => s_M V k p && !st.2 k p) (s_kp V k) (s_rl V) with
  | none => (st, false)
  | some p => (s_ak V k st p, true)
def s_rd (V : am_V) : Nat → s_St → s_St × Bool
  | 0, st => (st, false)
  | k + 1, st => ((s_sk V k (s_rd V k st).1).1, (s_rd V k st).2 || (s_sk V k (s_rd V k st).1).2)
def s_itr (V : am_V) : Nat → s_St → s_St
  | 0, st => st
  | f + 1, st => if (s_rd V (am_n V 113 4) st).2 = true then s_itr V f (s_rd V (am_n V 113 4) st).1 else (s_rd V (am_n V 113 4) st).1
def s_s0 : s_St := (fun _ => none, fun _ _ => false)
/-- who has a place has asked for it -/
def w_J (V : am_V) (st : s_St) : Prop := ∀ p k, st.1 p = some k → k < am_n V 113 4 ∧ p < s_rl V ∧ st.2 k p = true
theorem J_0 {V : am_V} : w_J V s_s0 := fun p k h => by cases h
theorem J_ak {V : am_V} {st : s_St} {k p : Nat} (h : w_J V st) (hk : k < am_n V 113 4) (hp : p < s_rl V) : w_J V (s_ak V k st p) := by
  intro y x e
  have e : (if y = p ∧ s_pp V k (st.1 p) = true then some k else st.1 y) = some x := e
  by_cases c : y = p ∧ s_pp V k (st.1 p) = true
  · rw [if_pos c] at e
    injection e with e
    subst e
    refine ⟨hk, by omega, ?_⟩
    show (st.2 k y || decide (k = k ∧ y = p)) = true
    rw [decide_eq_true (show k = k ∧ y = p from ⟨rfl, c.1⟩), Bool.or_true]
  · rw [if_neg c] at e
    have := h y x e
    refine ⟨this.1, this.2.1, ?_⟩
    show (st.2 x y || decide (x = k ∧ y = p)) = true
    rw [this.2.2, Bool.true_or]
theorem J_sk {V : am_V} {st : s_St} {k : Nat} (h : w_J V st) (hk : k < am_n V 113 4) : w_J V (s_sk V k st).1 := by
  unfold s_sk
  split
  · exact h
  · split
    · exact h
    · rename_i p e
      exact J_ak h hk (nx_lt e).1
theorem J_rd {V : am_V} {st : s_St} (h : w_J V st) : ∀ k, k ≤ am_n V 113 4 → w_J V (s_rd V k st).1
  | 0, _ => h
  | k + 1, hk => J_sk (J_rd h k (by omega)) (by omega)
/-! how many have been asked -/
def s_nA (st : s_St) : Nat := s_cnt (fun x => st.2 (x / 6) (x % 6)) 120
theorem nA_le (st : s_St) : s_nA st ≤ 120 := cnt_le 120
theorem sk_nA {V : am_V} {st : s_St} {k : Nat} (hk : k < 20) (h6 : s_rl V ≤ 6) : s_nA st ≤ s_nA (s_sk V k st).1 ∧ ((s_sk V k st).2 = true → s_nA st < s_nA (s_sk V k st).1) := by
  unfold s_sk
  split
  · exact ⟨Nat.le_refl _, fun h => by cases h⟩
  · split
    · exact ⟨Nat.le_refl _, fun h => by cases h⟩
    · rename_i p e
      have nl := nx_lt e
      have nb : ¬ st.2 k p = true := fun q => by
        have := nl.2
        rw [q] at this
        simp at this
      have mono : ∀ x, x < 120 → st.2 (x / 6) (x % 6) = true → (st.2 (x / 6) (x % 6) || decide (x / 6 = k ∧ x % 6 = p)) = true := fun x _ q => by rw [q, Bool.true_or]
      have lt : s_nA st < s_nA (s_ak V k st p) := cnt_lt (b := 6 * k + p) mono (by omega) (by rw [show (6 * k + p) / 6 = k from by omega, show (6 * k + p) % 6 = p from by omega]; exact nb) (by rw [show (6 * k + p) / 6 = k from by omega, show (6 * k + p) % 6 = p from by omega]; show (st.2 k p || decide (k = k ∧ p = p)) = true; rw [decide_eq_true (show k = k ∧ p = p from ⟨rfl, rfl⟩), Bool.or_true])
      exact ⟨Nat.le_of_lt lt, fun _ => lt⟩
theorem rd_nA {V : am_V} {st : s_St} (h6 : s_rl V ≤ 6) : ∀ k, k ≤ 20 → s_nA st ≤ s_nA (s_rd V k st).1 ∧ ((s_rd V k st).2 = true → s_nA st < s_nA (s_rd V k st).1)
  | 0, _ => ⟨Nat.le_refl _, fun h => by cases h⟩
  | k + 1, hk => by
    have ih := rd_nA (V := V) (st := st) h6 k (by omega)
    have s := sk_nA (V := V) (st := (s_rd V k st).1) (k := k) (by omega) h6
    refine ⟨Nat.le_trans ih.1 s.1, fun h => ?_⟩
    have h : ((s_rd V k st).2 || (s_sk V k (s_rd V k st).1).2) = true := h
    rcases Bool.or_eq_true_iff.mp h with q | q
    · exact Nat.lt_of_lt_of_le (ih.2 q) s.1
    · exact Nat.lt_of_le_of_lt ih.1 (s.2 q)
theorem on_k {x : Int32} {o : Option Nat} {k : Nat} (hx : x < 0) (hk : k < 1000) (ho : ∀ j, o = some j → j < 1000) : am_on x o = nI k ↔ o = some k := by
  cases o with
  | none =>
    refine ⟨fun h => ?_, fun h => by cases h⟩
    have h : x = nI k := h
    have := nI_pos (n := k) (by omega)
    rw [← h] at this; exact absurd hx this
  | some j =>
    have hj := ho j rfl
    show nI j = nI k ↔ _
    rw [nI_eq (by omega) (by omega)]
    exact ⟨fun h => by rw [h], fun h => by injection h⟩
theorem on_0 {x : Int32} {o : Option Nat} (hx : x < 0) (ho : ∀ j, o = some j → j < 1000) : am_on x o < 0 ↔ o = none := by
  cases o with
  | none => exact ⟨fun _ => rfl, fun _ => hx⟩
  | some j =>
    have hj := ho j rfl
    exact ⟨fun h => absurd h (nI_pos (n := j) (by omega)), fun h => by cases h⟩
def w_cp (V I : am_V) (st : s_St) : Prop := w_sv V I ∧ (∀ p, p < s_rl V → I 107 p = am_on (-9) (st.1 p)) ∧ ∀ k, k < 20 → ∀ p, p < s_rl V → am_bt (I 110 k) p = (st.2 k p && !decide (st.1 p = some k))
section PC
variable {d : Nat} {I V : am_V} {L : Nat → Nat → Int64} {R : am_R} {st : s_St}
theorem sv_up {I' : am_V} (h : w_sv V I) (hc : ∀ c, c ≠ 107 → c ≠ 110 → I' c = I c) : w_sv V I' := by
  obtain ⟨a, b, c, e, f⟩ := h
  refine ⟨RC_98 (fun x hx => hc x (by omega) (by omega)) a, ?_, ?_, fun p hp => ?_, fun p hp => ?_⟩
  · rw [hc 74 (by decide) (by decide)]; exact b
  · rw [hc 106 (by decide) (by decide)]; exact c
  · rw [hc 108 (by decide) (by decide)]; exact e p hp
  · rw [hc 109 (by decide) (by decide)]; exact f p hp
theorem J_1000 (hv : Inv V) (hJ : w_J V st) (p : Nat) : ∀ j, st.1 p = some j → j < 1000 := fun j e => by
  have := (hJ p j e).1
  have := hv.1.2.1.2
  omega
theorem ok_Ma_hasPlace {k : Nat} (hd : 1 ≤ d) (hv : Inv V) (h6 : s_rl V ≤ 6) (hs : w_cp V I st) (hJ : w_J V st) (hk : k < 20) (h1 : s_hp V st k = true → R (some (.int 1)) (am_mk I L, 0, 0)) (h0 : s_hp V st k = false → R (some (.int 0)) (am_mk I L, 0, 0)) : am_meth d 62 [.ref 106, .int (nI k)] (am_mk I L, 0, 0) R := by
  obtain ⟨d, rfl⟩ : ∃ e, d = e + 1 := ⟨d - 1, by omega⟩
  have en := hs.1.2.2.1
  refine ar_in rfl rfl rfl (r_Match_hasPlace_0 ?_)
  unfold s_hp at h1 h0
  refine am_up (P := fun p => s_any (fun p => decide (st.1 p = some k)) p = false → am_Run am_X0 (am_meth d) 62 R 2 [some (.ref 106), some (.int (nI k)), some (.int (nI p))] [] (am_mk I L, 0, 0)) (n := s_rl V) (fun hf => ?_) (fun p hp ih hf => ?_) rfl
  · exact r_Match_hasPlace_2 ⟨fun c => absurd (en ▸ c) (nI_nlt (Nat.le_refl _) (by omega)), fun _ => h0 hf⟩
  · refine r_Match_hasPlace_2 ⟨fun _ => ⟨by omega, ?_⟩, fun c => absurd (by rw [en]; exact nI_lt hp (by omega)) c⟩
    rw [hs.2.1 p hp, on_k (by decide) (by omega) (J_1000 hv hJ p)]
    refine ⟨fun c => h1 (s_any_of hp (decide_eq_true c)), fun c => ih ?_⟩
    rw [s_any, hf, decide_eq_false c]; rfl
theorem ok_Ma_best {k : Nat} (hd : 3 ≤ d) (hv : Inv V) (ha : s_alo V = true) (h6 : s_rl V ≤ 6) (hs : w_cp V I st) (hk : k < 20) (hn : s_hp V st k = false) (h : R (some (.int (am_on (-9) (s_nx (fun p => s_M V k p && !st.2 k p) (s_kp V k) (s_rl V))))) (am_mk I L, 0, 0)) : am_meth d 63 [.ref 106, .int (nI k)] (am_mk I L, 0, 0) R := by
  obtain ⟨d, rfl⟩ : ∃ e, d = e + 1 := ⟨d - 1, by omega⟩
  have en := hs.1.2.2.1
  refine ar_in rfl rfl rfl (r_Match_bestToAsk_0 ?_)
  refine am_up (P := fun p => am_Run am_X0 (am_meth d) 63 R 5 [some (.ref 106), some (.int (nI k)), some (.int (am_on (-9) (s_nx (fun p => s_M V k p && !st.2 k p) (s_kp V k) p))), some (.int (nI p))] [] (am_mk I L, 0, 0)) (n := s_rl V) ?_ (fun p hp ih => ?_)
  · exact r_Match_bestToAsk_5 (by omega) ⟨fun c => absurd (en ▸ c) (nI_nlt (Nat.le_refl _) (by omega)), fun _ => h⟩
  · have nk : ¬ st.1 p = some k := fun e => by
      have := any_ff hn hp
      rw [decide_eq_true e] at this; exact Bool.noConfusion this
    refine r_Match_bestToAsk_5 (by omega) ⟨fun _ => ⟨by omega, by omega, ?_⟩, fun c => absurd (by rw [en]; exact nI_lt hp (by omega)) c⟩
    rw [hs.1.2.2.2.2 p hp k (by omega)]
    simp only [s_nx] at ih
    have skip : (s_M V k p && !st.2 k p) = false → am_Run am_X0 (am_meth d) 63 R 5 [some (.ref 106), some (.int (nI k)), some (.int (am_on (-9) (s_nx (fun p => s_M V k p && !st.2 k p) (s_kp V k) p))), some (.int (nI (p + 1)))] [] (am_mk I L, 0, 0) := fun q => by
      rw [if_neg (by rw [q]; decide)] at ih; exact ih
    refine ⟨fun c => ⟨hk, ?_⟩, fun c => skip (by rw [Bool.eq_false_iff.mpr c]; rfl)⟩
    rw [bt_t (by omega), hs.2.2 k hk p hp, decide_eq_false nk, Bool.not_false, Bool.and_true]
    refine ⟨fun c2 => skip (by rw [c2, Bool.not_true, Bool.and_false]), fun c2 => ?_⟩
    have c2 := Bool.eq_false_iff.mpr c2
    rw [if_pos (by rw [c, c2]; rfl)] at ih
    revert ih
    cases e : s_nx (fun p => s_M V k p && !st.2 k p) (s_kp V k) p with
    | none => exact fun ih => ⟨fun _ => ih, fun q => absurd rfl q⟩
    | some q =>
      have ql := (nx_lt e).1
      intro ih
      refine ⟨fun z => absurd z (on_ne (by omega)), fun _ => ?_⟩
      refine ok_Ma_kp (by omega) hv ha h6 hs.1 hk hp (by omega) (fun z => ⟨_, _, _, rfl, rfl, fun w => absurd w (by decide), fun _ => ?_⟩) (fun z => ⟨_, _, _, rfl, rfl, fun _ => ?_, fun w => absurd rfl w⟩)
      · simp only [if_pos z] at ih; exact ih
      · simp only [if_neg (show ¬ s_kp V k p q = true by rw [z]; decide)] at ih; exact ih
theorem ok_Ma_ask {k p : Nat} (hd : 2 ≤ d) (hv : Inv V) (h6 : s_rl V ≤ 6) (hs : w_cp V I st) (hJ : w_J V st) (hk : k < am_n V 113 4) (hp : p < s_rl V) (hn : s_hp V st k = false) (hA : st.2 k p = false) (h : ∀ I', w_cp V I' (s_ak V k st p) → (∀ c, c ≠ 107 → c ≠ 110 → I' c = I c) → R none (am_mk I' L, 0, 0)) : am_meth d 66 [.ref 106, .int (nI k), .int (nI p)] (am_mk I L, 0, 0) R := by
  obtain ⟨d, rfl⟩ : ∃ e, d = e + 1 := ⟨d - 1, by omega⟩
  have hk20 : k < 20 := by have := hv.1.2.1.2; omega
  have e7 := hs.2.1 p hp
  refine ar_in rfl rfl rfl (r_Match_ask_0 ⟨by omega, ?_⟩)
  rw [e7]
  have nk : ∀ y, y < s_rl V → ¬ st.1 y = some k := fun y hy e => by
    have := any_ff hn hy
    rw [decide_eq_true e] at this; exact Bool.noConfusion this
  -- the place is taken
  have got : s_pp V k (st.1 p) = true → ∀ I' : am_V, (∀ c, c ≠ 107 → c ≠ 110 → I' c = I c) → I' 107 = upd (I 107) p (nI k) → (∀ x, x < 20 → ∀ y, y < s_rl V → am_bt (I' 110 x) y = (am_bt (I 110 x) y || decide (st.1 p = some x ∧ y = p))) → R none (am_mk I' L, 0, 0) := by
    intro c I' g1 g2 g3
    refine h I' ⟨sv_up hs.1 g1, fun y hy => ?_, fun x hx y hy => ?_⟩ g1
    · rw [g2]
      show upd (I 107) p (nI k) y = am_on (-9) (if y = p ∧ s_pp V k (st.1 p) = true then some k else st.1 y)
      by_cases e : y = p
      · rw [if_pos ⟨e, c⟩, e, upd_at]; rfl
      · rw [if_neg (fun z => e z.1), upd_ne e]; exact hs.2.1 y hy
    · rw [g3 x hx y hy, hs.2.2 x hx y hy]
      show _ = ((st.2 x y || decide (x = k ∧ y = p)) && !decide ((if y = p ∧ s_pp V k (st.1 p) = true then some k else st.1 y) = some x))
      by_cases e : y = p
      · subst e
        rw [if_pos ⟨rfl, c⟩]
        by_cases ex : x = k
        · subst ex
          have n9 := nk y hy
          simp [hA, n9]
        · have ex' : ¬ k = x := fun z => ex z.symm
          by_cases eo : st.1 y = some x
          · simp [ex, ex', eo, (hJ y x eo).2.2]
          · simp [ex, ex', eo]
      · rw [if_neg (fun z => e z.1)]
        simp [e]
  -- it is not
  have kept : s_pp V k (st.1 p) = false → ∀ I' : am_V, (∀ c, c ≠ 107 → c ≠ 110 → I' c = I c) → I' 107 = I 107 → I' 110 = upd (I 110) k (I 110 k ||| (1 <<< (nI p &&& 31))) → R none (am_mk I' L, 0, 0) := by
    intro c I' g1 g2 g3
    refine h I' ⟨sv_up hs.1 g1, fun y hy => ?_, fun x hx y hy => ?_⟩ g1
    · rw [g2, hs.2.1 y hy]
      show _ = am_on (-9) (if y = p ∧ s_pp V k (st.1 p) = true then some k else st.1 y)
      rw [if_neg (fun z => by rw [c] at z; exact Bool.noConfusion z.2)]
    · rw [g3]
      show am_bt (upd (I 110) k (I 110 k ||| (1 <<< (nI p &&& 31))) x) y = ((st.2 x y || decide (x = k ∧ y = p)) && !decide ((if y = p ∧ s_pp V k (st.1 p) = true then some k else st.1 y) = some x))
      rw [if_neg (fun z => by rw [c] at z; exact Bool.noConfusion z.2)]
      by_cases ex : x = k
      · subst ex
        rw [upd_at, bt_or (by omega) (by omega), hs.2.2 x hx y hy]
        have n9 := nk y hy
        by_cases e : y = p
        · subst e; simp [n9]
        · simp [n9, e]
      · rw [upd_ne ex, hs.2.2 x hx y hy]
        simp [ex]
  cases eo : st.1 p with
  | none =>
    rw [eo] at got kept
    refine ⟨fun _ => ?_, fun z => absurd rfl z⟩
    rintro _ rfl
    refine ⟨fun _ => got rfl _ (fun c h1 _ => by rw [am_vat, if_neg h1]) rfl (fun x hx y hy => ?_), fun z => absurd (show (-9 : Int32) < 0 by decide) z⟩
    simp
    rfl
  | some q =>
    have hq := (hJ p q eo).1
    have hq20 : q < 20 := by have := hv.1.2.1.2; omega
    rw [eo] at got kept
    refine ⟨fun z => absurd z (on_ne (by omega)), fun _ => ?_⟩
    refine ok_Ma_prefers (by omega) (kds_of hs.1.1 hv hs.1.2.1) hk20 hq20 (fun c => ⟨_, _, _, rfl, rfl, fun z => absurd z (by decide), fun _ => ?_⟩) (fun c => ⟨_, _, _, rfl, rfl, fun _ => ⟨hk20, ?_⟩, fun z => absurd rfl z⟩)
    · rintro _ rfl
      refine ⟨fun z => absurd z (nI_pos (n := q) (by omega)), fun _ => ⟨q, hq20, rfl, ?_⟩⟩
      rintro _ rfl
      refine got c _ (fun x h1 h2 => by rw [am_vat, if_neg h2, am_vat, if_neg h1]) rfl (fun x hx y hy => ?_)
      show am_bt (upd (I 110) q (I 110 q ||| (1 <<< (nI p &&& 31))) x) y = _
      by_cases ex : x = q
      · subst ex
        rw [upd_at, bt_or (by omega) (by omega)]
        by_cases e : y = p
        · simp [e]
        · simp [e]
      · have ex' : ¬ q = x := fun z => ex z.symm
        rw [upd_ne ex]
        simp [ex']
    · rintro _ rfl
      exact kept c _ (fun x h1 h2 => by rw [am_vat, if_neg h2]) rfl rfl
end PC
