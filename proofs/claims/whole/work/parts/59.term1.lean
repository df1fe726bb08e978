/-! which term is in force -/
def s_lat (V : am_V) (ho : Int32) : Nat → Option Nat
  | 0 => none
  | t + 1 => if V 134 t = ho ∧ V 135 t ≤ V 113 0 then (match s_lat V ho t with
    | none => some t
    | some j => if V 135 t < V 135 j then some j else some t) else s_lat V ho t
theorem lat_lt {V : am_V} {ho : Int32} : ∀ {n j : Nat}, s_lat V ho n = some j → j < n
  | 0, _, h => nomatch h
  | n + 1, j, h => by
    unfold s_lat at h
    split at h
    · split at h
      · injection h with e; omega
      · rename_i i hi
        split at h
        · injection h with e; have := lat_lt hi; omega
        · injection h with e; omega
    · have := lat_lt h; omega
def s_frc (V : am_V) (ho : Int32) : Option Nat := match s_lat V ho (am_n V 113 25) with
  | none => s_lat V (-1) (am_n V 113 25)
  | some t => some t
section TE
variable {d : Nat} {I V : am_V} {L : Nat → Nat → Int64} {R : am_R}
theorem ok_Te_latest {ho : Int32} (hd : 1 ≤ d) (hc : RC I V) (hv : Inv V) (h : R (some (.int (am_on (-9) (s_lat V ho (am_n V 113 25))))) (am_mk I L, 0, 0)) : am_meth d 127 [.ref 85, .int ho, .int (V 113 0)] (am_mk I L, 0, 0) R := by
  obtain ⟨d, rfl⟩ : ∃ e, d = e + 1 := ⟨d - 1, by omega⟩
  refine ar_in rfl rfl rfl (r_Terms_latest_0 ?_)
  obtain ⟨⟨n1, n2, n3, n4, n5, n6, n7, n8⟩, ⟨e1, e2, e3, e4, e5, e6, e7, e8, e9, e10, e11, e12, e13, e14, e15, e16, e17⟩, -⟩ := id hc
  have hn := hv.1.2.2.2.2.2.1
  have hn2 := hn.2
  have en : I 85 0 = nI (am_n V 113 25) := by rw [n5]; exact hn.1
  refine am_up (P := fun t => am_Run am_X0 (am_meth d) 127 R 6 [some (.ref 85), some (.int ho), some (.int (V 113 0)), some (.int (am_on (-9) (s_lat V ho t))), some (.int (nI t))] [] (am_mk I L, 0, 0)) (n := am_n V 113 25) ?_ (fun t ht ih => ?_)
  · exact r_Terms_latest_6 ⟨fun c => absurd (en ▸ c) (nI_nlt (Nat.le_refl _) (by omega)), fun _ => h⟩
  · refine r_Terms_latest_6 ⟨fun _ => ⟨by omega, ?_⟩, fun c => absurd (by rw [en]; exact nI_lt ht (by omega)) c⟩
    rw [e14, e15]
    have ih2 := ih
    simp only [s_lat] at ih2
    refine ⟨fun c => ⟨fun c2 => ?_, fun c2 => ?_⟩, fun c => ?_⟩
    · rw [if_pos ⟨c, c2⟩] at ih2
      revert ih2
      cases e : s_lat V ho t with
      | none => exact fun ih2 => ⟨fun _ => ih2, fun c => absurd rfl c⟩
      | some j =>
        have hj := lat_lt e
        refine fun ih2 => ⟨fun c => absurd c (on_ne (by omega)), fun _ => ⟨j, by omega, rfl, fun c4 => ?_, fun c4 => ?_⟩⟩
        · simp only [if_pos c4] at ih2; exact ih2
        · simp only [if_neg c4] at ih2; exact ih2
    · rw [if_neg (fun q => c2 q.2)] at ih2; exact ih2
    · rw [if_neg (fun q => c q.1)] at ih2; exact ih2
theorem ok_Te_inForce {ho : Int32} (hd : 2 ≤ d) (hc : RC I V) (hv : Inv V) (h : R (some (.int (am_on (-9) (s_frc V ho)))) (am_mk I L, 0, 0)) : am_meth d 126 [.ref 85, .int ho, .int (V 113 0)] (am_mk I L, 0, 0) R := by
  obtain ⟨d, rfl⟩ : ∃ e, d = e + 1 := ⟨d - 1, by omega⟩
  refine ar_in rfl rfl rfl (r_Terms_inForce_0 ?_)
  have hn2 := hv.1.2.2.2.2.2.1.2
  refine ok_Te_latest (by omega) hc hv ⟨_, _, _, rfl, rfl, ?_⟩
  unfold s_frc at h
  cases e : s_lat V ho (am_n V 113 25) with
  | none =>
    rw [e] at h
    exact ⟨fun _ => ok_Te_latest (by omega) hc hv ⟨_, _, _, rfl, rfl, h⟩, fun q => absurd rfl q⟩
  | some t =>
    rw [e] at h
    have := lat_lt e
    exact ⟨fun q => absurd q (on_ne (by omega)), fun _ => h⟩
theorem ok_M_latest {ho : Int32} (hd : 1 ≤ d) (hm : RM I V) (hv : Inv V) (h : R (some (.int (am_on (-1) (s_lat V ho (am_n V 113 25))))) (am_mk I L, 0, 0)) : am_meth d 173 [.ref 113, .int ho] (am_mk I L, 0, 0) R := by
  obtain ⟨d, rfl⟩ : ∃ e, d = e + 1 := ⟨d - 1, by omega⟩
  refine ar_in rfl rfl rfl (r_M_latest_0 ?_)
  have mc := hm.1; have mf := hm.2
  have hn := hv.1.2.2.2.2.2.1
  have hn2 := hn.2
  have en : I 113 25 = nI (am_n V 113 25) := by rw [mf 25 rfl]; exact hn.1
  refine am_up (P := fun t => am_Run am_X0 (am_meth d) 173 R 4 [some (.ref 113), some (.int ho), some (.int (am_on (-1) (s_lat V ho t))), some (.int (nI t))] [] (am_mk I L, 0, 0)) (n := am_n V 113 25) ?_ (fun t ht ih => ?_)
  · exact r_M_latest_4 ⟨fun c => absurd (en ▸ c) (nI_nlt (Nat.le_refl _) (by omega)), fun _ => h⟩
  · refine r_M_latest_4 ⟨fun _ => ⟨by omega, ?_⟩, fun c => absurd (by rw [en]; exact nI_lt ht (by omega)) c⟩
    rw [mc 134 rfl, mc 135 rfl, mf 0 rfl]
    have ih2 := ih
    simp only [s_lat] at ih2
    refine ⟨fun c => ⟨fun c2 => ?_, fun c2 => ?_⟩, fun c => ?_⟩
    · rw [if_pos ⟨c, c2⟩] at ih2
      revert ih2
      cases e : s_lat V ho t with
      | none => exact fun ih2 => ⟨fun _ => ih2, fun c => absurd (show (-1 : Int32) < 0 by decide) c⟩
      | some j =>
        have hj := lat_lt e
        refine fun ih2 => ⟨fun c => absurd c (nI_pos (n := j) (by omega)), fun _ => ⟨j, by omega, rfl, fun c4 => ?_, fun c4 => ?_⟩⟩
        · simp only [if_pos c4] at ih2; exact ih2
        · simp only [if_neg c4] at ih2; exact ih2
    · rw [if_neg (fun q => c2 q.2)] at ih2; exact ih2
    · rw [if_neg (fun q => c q.1)] at ih2; exact ih2
/-- a bad twin -/
def s_tw (V : am_V) (k : Nat) : Bool := s_any (fun j => !decide (j = k) && (decide (s_tr V (nI j) (V 113 0) < 0) && s_alf (V 120) j k)) (am_n V 113 4)
theorem ok_Ru_hasBadTwin {k : Nat} (hd : 2 ≤ d) (hc : RC I V) (hv : Inv V) (hkd : am_kds I V (V 113 0)) (hk : k < 20) (h1 : s_tw V k = true → R (some (.int 1)) (am_mk I L, 0, 0)) (h0 : s_tw V k = false → R (some (.int 0)) (am_mk I L, 0, 0)) : am_meth d 109 [.ref 99, .int (nI k)] (am_mk I L, 0, 0) R := by
  obtain ⟨d, rfl⟩ : ∃ e, d = e + 1 := ⟨d - 1, by omega⟩
  refine ar_in rfl rfl rfl (r_Rules_hasBadTwin_0 ?_)
  obtain ⟨⟨n1, n2, n3, n4, n5, n6, n7, n8⟩, ⟨e1, e2, e3, e4, e5, e6, e7, e8, e9, e10, e11, e12, e13, e14, e15, e16, e17⟩, -⟩ := id hc
  have hn := hv.1.2.1
  have hn2 := hn.2
  have en : I 16 0 = nI (am_n V 113 4) := by rw [n1]; exact hn.1
  unfold s_tw at h1 h0
  refine am_up (P := fun j => s_any (fun j => !decide (j = k) && (decide (s_tr V (nI j) (V 113 0) < 0) && s_alf (V 120) j k)) j = false → am_Run am_X0 (am_meth d) 109 R 2 [some (.ref 99), some (.int (nI k)), some (.int (nI j))] [] (am_mk I L, 0, 0)) (n := am_n V 113 4) (fun hf => ?_) (fun j hj ih hf => ?_) rfl
  · exact r_Rules_hasBadTwin_2 (by omega) ⟨fun c => absurd (en ▸ c) (nI_nlt (Nat.le_refl _) (by omega)), fun _ => h0 hf⟩
  · have ih2 : ¬ (!decide (j = k) && (decide (s_tr V (nI j) (V 113 0) < 0) && s_alf (V 120) j k)) = true → _ := fun q => ih (by rw [s_any, hf, Bool.false_or]; exact Bool.eq_false_iff.mpr q)
    rw [Bool.and_eq_true_iff, Bool.and_eq_true_iff, decide_eq_true_iff] at ih2
    refine r_Rules_hasBadTwin_2 (by omega) ⟨fun _ => ⟨fun c => ih2 (fun q => ?_), fun c => ⟨by omega, ?_⟩⟩, fun c => absurd (by rw [en]; exact nI_lt hj (by omega)) c⟩
    · rw [nI_eq (by omega) (by omega)] at c
      have := q.1
      rw [decide_eq_true c] at this; exact Bool.noConfusion this
    · have cj : ¬ j = k := fun e => c (by rw [e])
      rw [(hkd.2 j (by omega)).1, e7]
      refine ⟨fun c2 => ⟨by omega, hk, fun c3 => h1 (s_any_of hj ?_), fun c3 => ih2 (fun q => c3 q.2.2)⟩, fun c2 => ih2 (fun q => c2 q.2.1)⟩
      rw [decide_eq_false cj, decide_eq_true (show s_tr V (nI j) (V 113 0) < 0 from c2), c3]; rfl
end TE
