/-! the reference's evaluation: a byte a step -/
def w_T (V : am_V) (t : Nat) : Nat → Int32 := p_of (V 137) (60 * t) (am_n V 136 t)
theorem T_at {V : am_V} {t i : Nat} {c : Int32} (hc : ¬ c = -1) (h : w_T V t i = c) : i < am_n V 136 t ∧ V 137 (60 * t + i) = c := by
  unfold w_T p_of at h
  split at h
  · rename_i q; exact ⟨q, h⟩
  · exact absurd h.symm hc
theorem T_tl {V : am_V} {t : Nat} : w_tl (w_T V t) (am_n V 136 t) := fun i hi => by
  unfold w_T p_of; rw [if_neg (by omega)]
def w_E (d t k s l i : Nat) (R : am_R) (I : am_V) (L : Nat → Nat → Int64) : Prop := am_Run am_X0 (am_meth d) 174 R 11 [some (.ref 113), some (.int (nI t)), some (.int (nI k)), some (.int (nI s)), some (.int (nI l)), some (.int (nI i)), none, none, none] [] (am_mk I L, 0, 0)
def w_E2 (d t k s l i : Nat) (v : Int64) (R : am_R) (I : am_V) (L : Nat → Nat → Int64) : Prop := am_Run am_X0 (am_meth d) 174 R 237 [some (.ref 113), some (.int (nI t)), some (.int (nI k)), some (.int (nI s)), some (.int (nI l)), some (.int (nI i)), none, some (.long v), none] [] (am_mk I L, 0, 0)
def w_ul (I : am_V) (L : Nat → Nat → Int64) (l : Nat) (v : Int64) : Nat → Nat → Int64 := va_up L 141 (vp_updL (L 141) l (w_un (I 142 l) (L 141 l) v))
def w_H (V : am_V) (d t k s : Nat) : Prop := Inv V ∧ t < am_n V 113 25 ∧ k < 20 ∧ s < 60 ∧ 5 ≤ d
section EV
variable {d t k s l i : Nat} {I V : am_V} {L : Nat → Nat → Int64} {R : am_R}
theorem H_n (H : w_H V d t k s) : t < 30 ∧ V 136 t = nI (am_n V 136 t) ∧ am_n V 136 t ≤ 60 := by
  have h1 := H.1.1.2.2.2.2.2.1.2
  have h2 := H.2.1
  have h3 := (H.1.2.2.2.2.2.2.1.2.2 t h2).2.2
  have h4 := h3.2
  exact ⟨by omega, h3.1, by omega⟩
theorem ev_open (H : w_H V d t k s) (hm : RM I V) (hl : l + 1 < 7) (h : w_T V t i = 40) (K : w_E d t k s (l + 1) (i + 1) R (w_op I (l + 1)) L) : w_E d t k s l i R I L := by
  obtain ⟨h1, h2, h3⟩ := H_n H
  obtain ⟨a1, a2⟩ := T_at (by decide) h
  have hd := H.2.2.2.2
  refine r_M_evaluated_11 (by omega) ⟨h1, fun _ => ⟨60 * t + i, by omega, nI_60 t i, ?_⟩, fun c => absurd (by rw [hm.1 136 rfl, h2]; exact nI_lt a1 (by omega)) c⟩
  rw [hm.1 137 rfl, a2]
  exact ⟨fun _ => ⟨hl, K⟩, fun q => absurd rfl q⟩
theorem ev_close (H : w_H V d t k s) (hm : RM I V) (hl : l + 1 < 7) (h : w_T V t i = 41) (K : w_E d t k s l (i + 1) R I (w_ul I L l (w_clo (I 143 (l + 1)) (L 144 (l + 1)) (w_tot (I 140 (l + 1)) (L 139 (l + 1)) (L 141 (l + 1)))))) : w_E d t k s (l + 1) i R I L := by
  obtain ⟨h1, h2, h3⟩ := H_n H
  obtain ⟨a1, a2⟩ := T_at (by decide) h
  have hd := H.2.2.2.2
  refine r_M_evaluated_11 (by omega) ⟨h1, fun _ => ⟨60 * t + i, by omega, nI_60 t i, ?_⟩, fun c => absurd (by rw [hm.1 136 rfl, h2]; exact nI_lt a1 (by omega)) c⟩
  rw [hm.1 137 rfl, a2]
  refine ⟨fun q => absurd q (by decide), fun _ => ⟨fun _ => ⟨l + 1, by rw [nI_m1, nI_1], hl, l, nI_m1 l, by omega, ?_⟩, fun q => absurd rfl q⟩⟩
  rw [nI_m1]; exact K
theorem ev_star (H : w_H V d t k s) (hm : RM I V) (hl : l < 7) (h : w_T V t i = 42 ∨ w_T V t i = 47) (K : w_E d t k s l (i + 1) R (va_up I 142 (upd (I 142) l (w_T V t i))) L) : w_E d t k s l i R I L := by
  obtain ⟨h1, h2, h3⟩ := H_n H
  have hd := H.2.2.2.2
  rcases h with h | h
  · obtain ⟨a1, a2⟩ := T_at (by decide) h
    rw [h] at K
    refine r_M_evaluated_11 (by omega) ⟨h1, fun _ => ⟨60 * t + i, by omega, nI_60 t i, ?_⟩, fun c => absurd (by rw [hm.1 136 rfl, h2]; exact nI_lt a1 (by omega)) c⟩
    rw [hm.1 137 rfl, a2]
    refine ⟨fun q => absurd q (by decide), fun _ => ⟨fun q => absurd q (by decide), fun _ => ⟨fun _ => ⟨hl, ?_⟩, fun q => absurd rfl q⟩⟩⟩
    rintro _ rfl; exact K
  · obtain ⟨a1, a2⟩ := T_at (by decide) h
    rw [h] at K
    refine r_M_evaluated_11 (by omega) ⟨h1, fun _ => ⟨60 * t + i, by omega, nI_60 t i, ?_⟩, fun c => absurd (by rw [hm.1 136 rfl, h2]; exact nI_lt a1 (by omega)) c⟩
    rw [hm.1 137 rfl, a2]
    refine ⟨fun q => absurd q (by decide), fun _ => ⟨fun q => absurd q (by decide), fun _ => ⟨fun q => absurd q (by decide), fun _ => ⟨fun _ => ⟨hl, ?_⟩, fun q => absurd rfl q⟩⟩⟩⟩
    rintro _ rfl; exact K
theorem ev_plus (H : w_H V d t k s) (hm : RM I V) (hl : l < 7) (h : w_T V t i = 43 ∨ w_T V t i = 45) (K : w_E d t k s l (i + 1) R (va_up (va_up I 140 (upd (I 140) l (w_T V t i))) 142 (upd (I 142) l 0)) (va_up L 139 (vp_updL (L 139) l (w_tot (I 140 l) (L 139 l) (L 141 l))))) : w_E d t k s l i R I L := by
  obtain ⟨h1, h2, h3⟩ := H_n H
  have hd := H.2.2.2.2
  rcases h with h | h <;>
  · obtain ⟨a1, a2⟩ := T_at (by decide) h
    rw [h] at K
    refine r_M_evaluated_11 (by omega) ⟨h1, fun _ => ⟨60 * t + i, by omega, nI_60 t i, ?_⟩, fun c => absurd (by rw [hm.1 136 rfl, h2]; exact nI_lt a1 (by omega)) c⟩
    rw [hm.1 137 rfl, a2]
    refine ⟨fun q => absurd q (by decide), fun _ => ⟨fun q => absurd q (by decide), fun _ => ⟨fun q => absurd q (by decide), fun _ => ⟨fun q => absurd q (by decide), fun _ => ⟨fun _ => ⟨hl, hl, ?_⟩, fun q => absurd (by decide) q⟩⟩⟩⟩⟩
    rintro _ rfl _ rfl _ rfl; exact K
theorem ev_rel (H : w_H V d t k s) (hm : RM I V) (hl : l < 7) (h : w_T V t i = 60 ∨ w_T V t i = 61 ∨ w_T V t i = 62) (K : w_E d t k s l (i + 1) R (va_up (va_up (va_up I 143 (upd (I 143) l (w_T V t i))) 140 (upd (I 140) l 0)) 142 (upd (I 142) l 0)) (va_up L 144 (vp_updL (L 144) l (w_tot (I 140 l) (L 139 l) (L 141 l))))) : w_E d t k s l i R I L := by
  obtain ⟨h1, h2, h3⟩ := H_n H
  have hd := H.2.2.2.2
  rcases h with h | h | h <;>
  · obtain ⟨a1, a2⟩ := T_at (by decide) h
    rw [h] at K
    refine r_M_evaluated_11 (by omega) ⟨h1, fun _ => ⟨60 * t + i, by omega, nI_60 t i, ?_⟩, fun c => absurd (by rw [hm.1 136 rfl, h2]; exact nI_lt a1 (by omega)) c⟩
    rw [hm.1 137 rfl, a2]
    refine ⟨fun q => absurd q (by decide), fun _ => ⟨fun q => absurd q (by decide), fun _ => ⟨fun q => absurd q (by decide), fun _ => ⟨fun q => absurd q (by decide), fun _ => ⟨fun q => absurd q (by decide), fun _ => ⟨fun _ => ⟨hl, hl, ?_⟩, fun q => absurd (by decide) q⟩⟩⟩⟩⟩⟩
    rintro _ rfl _ rfl _ rfl _ rfl; exact K
theorem ev_let (H : w_H V d t k s) (hm : RM I V) (hl : l < 7) {j : Nat} (h : p_let (w_T V t i) = some j) (K : w_E d t k s l (i + 1) R I (w_ul I L l (s_let V k s j).toInt64)) : w_E d t k s l i R I L := by
  obtain ⟨h1, h2, h3⟩ := H_n H
  have hd := H.2.2.2.2
  have nn := let_n h
  obtain ⟨hj, e⟩ := let_some h
  obtain ⟨a1, a2⟩ := T_at nn.1 rfl
  refine r_M_evaluated_11 (by omega) ⟨h1, fun _ => ⟨60 * t + i, by omega, nI_60 t i, ?_⟩, fun c => absurd (by rw [hm.1 136 rfl, h2]; exact nI_lt a1 (by omega)) c⟩
  rw [hm.1 137 rfl, a2]
  refine ⟨fun q => absurd q nn.2.1, fun _ => ⟨fun q => absurd q nn.2.2.1, fun _ => ⟨fun q => absurd q nn.2.2.2.1, fun _ => ⟨fun q => absurd q nn.2.2.2.2.1, fun _ => ⟨fun q => ?_, fun _ => ⟨fun q => ?_, fun _ => ⟨fun _ => ?_, fun q => absurd (by rw [h]; rfl) q⟩⟩⟩⟩⟩⟩⟩
  · rcases q with (q | q) | q | q
    · exact absurd q nn.2.2.2.2.2.1
    · exact absurd q nn.2.2.2.2.2.2.1
    · exact absurd q nn.2.2.2.1
    · exact absurd q nn.2.2.2.2.1
  · rcases q with q | q | q
    · exact absurd q nn.2.2.2.2.2.2.2.1
    · exact absurd q nn.2.2.2.2.2.2.2.2.1
    · exact absurd q nn.2.2.2.2.2.2.2.2.2.1
  · rw [← e]
    exact ok_M_letter (by omega) hm H.1 H.2.2.1 H.2.2.2.1 hj ⟨_, _, _, rfl, rfl, hl, K⟩
theorem ev_dig (H : w_H V d t k s) (hm : RM I V) (h : p_dig (w_T V t i) = true) (K : w_E2 d t k s l (i + 1) (w_T V t i - 48).toInt64 R I L) : w_E d t k s l i R I L := by
  obtain ⟨h1, h2, h3⟩ := H_n H
  have hd := H.2.2.2.2
  have nn := dig_n h
  obtain ⟨a1, a2⟩ := T_at nn.1 rfl
  refine r_M_evaluated_11 (by omega) ⟨h1, fun _ => ⟨60 * t + i, by omega, nI_60 t i, ?_⟩, fun c => absurd (by rw [hm.1 136 rfl, h2]; exact nI_lt a1 (by omega)) c⟩
  rw [hm.1 137 rfl, a2]
  refine ⟨fun q => absurd q nn.2.1, fun _ => ⟨fun q => absurd q nn.2.2.1, fun _ => ⟨fun q => absurd q nn.2.2.2.1, fun _ => ⟨fun q => absurd q nn.2.2.2.2.1, fun _ => ⟨fun q => ?_, fun _ => ⟨fun q => ?_, fun _ => ⟨fun q => absurd q (by rw [nn.2.2.2.2.2.2.2.2.2.2]; decide), fun _ => K⟩⟩⟩⟩⟩⟩⟩
  · rcases q with (q | q) | q | q
    · exact absurd q nn.2.2.2.2.2.1
    · exact absurd q nn.2.2.2.2.2.2.1
    · exact absurd q nn.2.2.2.1
    · exact absurd q nn.2.2.2.2.1
  · rcases q with q | q | q
    · exact absurd q nn.2.2.2.2.2.2.2.1
    · exact absurd q nn.2.2.2.2.2.2.2.2.1
    · exact absurd q nn.2.2.2.2.2.2.2.2.2.1
theorem ev_end (H : w_H V d t k s) (hm : RM I V) (hi : am_n V 136 t ≤ i) (hi2 : i ≤ 60) (K : R (some (.long (w_tot (I 140 0) (L 139 0) (L 141 0)))) (am_mk I L, 0, 0)) : w_E d t k s l i R I L := by
  obtain ⟨h1, h2, h3⟩ := H_n H
  have hd := H.2.2.2.2
  exact r_M_evaluated_11 (by omega) ⟨h1, fun c => absurd (by rw [hm.1 136 rfl, h2] at c; exact c) (nI_nlt hi (by omega)), fun _ => ⟨by decide, K⟩⟩
theorem ev_d1 (H : w_H V d t k s) (hm : RM I V) {v : Int64} (h : p_dig (w_T V t i) = true) (K : w_E2 d t k s l (i + 1) (10 * v + (w_T V t i).toInt64 - 48) R I L) : w_E2 d t k s l i v R I L := by
  obtain ⟨h1, h2, h3⟩ := H_n H
  have hd := H.2.2.2.2
  have nn := dig_n h
  obtain ⟨a1, a2⟩ := T_at nn.1 rfl
  refine r_M_evaluated_237 (by omega) ⟨h1, fun _ => ⟨60 * t + i, by omega, nI_60 t i, ?_⟩, fun c => absurd (by rw [hm.1 136 rfl, h2]; exact nI_lt a1 (by omega)) c⟩
  rw [hm.1 137 rfl, a2]
  exact ⟨fun _ => K, fun q => absurd h q⟩
theorem ev_d0 (H : w_H V d t k s) (hm : RM I V) (hl : l < 7) (hi : i ≤ 60) {v : Int64} (h : p_dig (w_T V t i) = false) (K : w_E d t k s l i R I (w_ul I L l v)) : w_E2 d t k s l i v R I L := by
  obtain ⟨h1, h2, h3⟩ := H_n H
  have hd := H.2.2.2.2
  refine r_M_evaluated_237 (by omega) ⟨h1, fun c => ?_, fun _ => ⟨hl, K⟩⟩
  rw [hm.1 136 rfl, h2, nI_ltI (by omega) (by omega)] at c
  refine ⟨60 * t + i, by omega, nI_60 t i, ?_⟩
  have e : w_T V t i = V 137 (60 * t + i) := by unfold w_T p_of; rw [if_pos c]
  rw [hm.1 137 rfl, ← e]
  exact ⟨fun q => absurd q (by rw [h]; decide), fun _ => ⟨hl, K⟩⟩
end EV
