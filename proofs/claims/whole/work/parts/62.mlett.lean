/-! the reference's letters -/
section LE2
variable {d : Nat} {I V : am_V} {L : Nat → Nat → Int64} {R : am_R}
theorem ok_M_letter {k s j : Nat} (hd : 4 ≤ d) (hm : RM I V) (hv : Inv V) (hk : k < 20) (hs : s < 60) (hj : j < 10) (h : R (some (.long (s_let V k s j).toInt64)) (am_mk I L, 0, 0)) : am_meth d 183 [.ref 113, .int (am_tx j), .int (nI k), .int (nI s)] (am_mk I L, 0, 0) R := by
  obtain ⟨d, rfl⟩ : ∃ e, d = e + 1 := ⟨d - 1, by omega⟩
  refine ar_in rfl rfl rfl (r_M_letter_0 (by omega) ?_)
  have mc := hm.1; have mf := hm.2
  have v1 := hv.2.2.2.1.1 s hs
  have hn := hv.1.2.1
  have hn2 := hn.2
  rw [mf 0 rfl]
  match j, hj with
  | 0, _ => exact ⟨fun _ => ok_M_trustOf (by omega) hm hv ⟨_, _, _, rfl, rfl, h⟩, fun c => absurd (by decide) c⟩
  | 1, _ => exact ⟨fun c => absurd c (by decide), fun _ => ⟨fun _ => ok_M_reviewsOf (by omega) hm hv ⟨_, _, _, rfl, rfl, h⟩, fun c => absurd (by decide) c⟩⟩
  | 2, _ => exact ⟨fun c => absurd c (by decide), fun _ => ⟨fun c => absurd c (by decide), fun _ => ⟨fun _ => ⟨hk, by rw [mc 119 rfl]; exact h⟩, fun c => absurd (by decide) c⟩⟩⟩
  | 3, _ =>
    refine ⟨fun c => absurd c (by decide), fun _ => ⟨fun c => absurd c (by decide), fun _ => ⟨fun c => absurd c (by decide), fun _ => ⟨fun _ => ⟨hs, am_n V 125 s, v1.1.2, by rw [mc 125 rfl]; exact v1.1.1, ?_⟩, fun c => absurd (by decide) c⟩⟩⟩⟩
    exact ok_M_sorts (by omega) ⟨_, _, _, rfl, rfl, by rw [mc 123 rfl]; exact h⟩
  | 4, _ => exact ⟨fun c => absurd c (by decide), fun _ => ⟨fun c => absurd c (by decide), fun _ => ⟨fun c => absurd c (by decide), fun _ => ⟨fun c => absurd c (by decide), fun _ => ⟨fun _ => ⟨hs, by rw [mc 126 rfl, mc 127 rfl]; exact h⟩, fun c => absurd (by decide) c⟩⟩⟩⟩⟩
  | 5, _ =>
    have q125 : I 125 = V 125 := mc 125 rfl
    have q122 : I 122 = V 122 := mc 122 rfl
    have ix : am_ix I 125 s 20 := by unfold am_ix am_n; rw [q125]; exact v1.1
    have t43 : I 122 (am_n I 125 s) = nI (s_tn V s) := by
      rw [q122, ← (tn_ix hv hs).1]; unfold am_n; rw [q125]
    exact ⟨fun c => absurd c (by decide), fun _ => ⟨fun c => absurd c (by decide), fun _ => ⟨fun c => absurd c (by decide), fun _ => ⟨fun c => absurd c (by decide), fun _ => ⟨fun c => absurd c (by decide), fun _ => ⟨fun _ => ⟨hs, ix, s_tn V s, (tn_ix hv hs).2, t43, by rw [mc 114 rfl]; exact h⟩, fun c => absurd (by decide) c⟩⟩⟩⟩⟩⟩
  | 6, _ => exact ⟨fun c => absurd c (by decide), fun _ => ⟨fun c => absurd c (by decide), fun _ => ⟨fun c => absurd c (by decide), fun _ => ⟨fun c => absurd c (by decide), fun _ => ⟨fun c => absurd c (by decide), fun _ => ⟨fun c => absurd c (by decide), fun _ => ⟨fun _ => ⟨hs, by rw [mc 125 rfl]; exact h⟩, fun c => absurd (by decide) c⟩⟩⟩⟩⟩⟩⟩
  | 7, _ => exact ⟨fun c => absurd c (by decide), fun _ => ⟨fun c => absurd c (by decide), fun _ => ⟨fun c => absurd c (by decide), fun _ => ⟨fun c => absurd c (by decide), fun _ => ⟨fun c => absurd c (by decide), fun _ => ⟨fun c => absurd c (by decide), fun _ => ⟨fun c => absurd c (by decide), fun _ => ⟨fun _ => h, fun c => absurd (by decide) c⟩⟩⟩⟩⟩⟩⟩⟩
  | 8, _ => exact ⟨fun c => absurd c (by decide), fun _ => ⟨fun c => absurd c (by decide), fun _ => ⟨fun c => absurd c (by decide), fun _ => ⟨fun c => absurd c (by decide), fun _ => ⟨fun c => absurd c (by decide), fun _ => ⟨fun c => absurd c (by decide), fun _ => ⟨fun c => absurd c (by decide), fun _ => ⟨fun c => absurd c (by decide), fun _ => ⟨fun _ => ⟨hs, by rw [mc 126 rfl]; exact h⟩, fun c => absurd (by decide) c⟩⟩⟩⟩⟩⟩⟩⟩⟩
  | 9, _ =>
    refine ⟨fun c => absurd c (by decide), fun _ => ⟨fun c => absurd c (by decide), fun _ => ⟨fun c => absurd c (by decide), fun _ => ⟨fun c => absurd c (by decide), fun _ => ⟨fun c => absurd c (by decide), fun _ => ⟨fun c => absurd c (by decide), fun _ => ⟨fun c => absurd c (by decide), fun _ => ⟨fun c => absurd c (by decide), fun _ => ⟨fun c => absurd c (by decide), fun _ => ?_⟩⟩⟩⟩⟩⟩⟩⟩⟩
    have en : I 113 4 = nI (am_n V 113 4) := by rw [mf 4 rfl]; exact hn.1
    have h1 : s_tw V k = true → R (some (.long 1)) (am_mk I L, 0, 0) := fun q => by
      have h' := h; simp only [s_let] at h'; rw [if_pos q] at h'; exact h'
    have h0 : s_tw V k = false → R (some (.long 0)) (am_mk I L, 0, 0) := fun q => by
      have h' := h; simp only [s_let] at h'; rw [if_neg (by rw [q]; decide)] at h'; exact h'
    unfold s_tw at h1 h0
    refine am_up (P := fun j => s_any (fun j => !decide (j = k) && (decide (s_tr V (nI j) (V 113 0) < 0) && s_alf (V 120) j k)) j = false → am_Run am_X0 (am_meth d) 183 R 157 [some (.ref 113), none, some (.int (nI k)), none, some (.int (nI j))] [] (am_mk I L, 0, 0)) (n := am_n V 113 4) (fun hf => ?_) (fun j hj ih hf => ?_) rfl
    · exact r_M_letter_157 (by omega) ⟨fun c => absurd (en ▸ c) (nI_nlt (Nat.le_refl _) (by omega)), fun _ => h0 hf⟩
    · have ih2 : ¬ (!decide (j = k) && (decide (s_tr V (nI j) (V 113 0) < 0) && s_alf (V 120) j k)) = true → _ := fun q => ih (by rw [s_any, hf, Bool.false_or]; exact Bool.eq_false_iff.mpr q)
      rw [Bool.and_eq_true_iff, Bool.and_eq_true_iff, decide_eq_true_iff] at ih2
      refine r_M_letter_157 (by omega) ⟨fun _ => ⟨fun c => ih2 (fun q => ?_), fun c => ⟨by omega, hk, ?_⟩⟩, fun c => absurd (by rw [en]; exact nI_lt hj (by omega)) c⟩
      · rw [nI_eq (by omega) (by omega)] at c
        have := q.1
        rw [decide_eq_true c] at this; exact Bool.noConfusion this
      · have cj : ¬ j = k := fun e => c (by rw [e])
        rw [mc 120 rfl, mf 0 rfl]
        refine ⟨fun c2 => ok_M_trustOf (by omega) hm hv ⟨_, _, _, rfl, rfl, fun c3 => h1 (s_any_of hj ?_), fun c3 => ih2 (fun q => c3 q.2.1)⟩, fun c2 => ih2 (fun q => c2 q.2.2)⟩
        rw [decide_eq_false cj, decide_eq_true (show s_tr V (nI j) (V 113 0) < 0 from c3), c2]; rfl
  | j + 10, hj => exact absurd hj (by omega)
end LE2
