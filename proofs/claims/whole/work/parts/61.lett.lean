/-! letters -/
def s_so (x : Int32) : Nat → Int32
  | 0 => 0
  | j + 1 => s_so x j + ((x >>> (nI j &&& 31)) &&& 1)
theorem bc_e {y : Nat} (hy : y < 1024) : w_bc (nI y) = s_so (nI y) 10 := by
  revert y
  decide +kernel
theorem so_8 {y : Nat} (hy : y < 256) : s_so (nI y) 10 = s_so (nI y) 8 := by
  revert y
  decide +kernel
section LE
variable {d : Nat} {I V : am_V} {L : Nat → Nat → Int64} {R : am_R}
theorem ok_bitCount {x : Int32} {y : Nat} (hd : 1 ≤ d) (hx : x = nI y) (hy : y < 1024) (h : R (some (.int (s_so (nI y) 10))) (am_mk I L, 0, 0)) : am_meth d 248 [.int x] (am_mk I L, 0, 0) R := by
  obtain ⟨d, rfl⟩ : ∃ e, d = e + 1 := ⟨d - 1, by omega⟩
  subst hx
  refine ar_in rfl rfl rfl (r_Int_bitCount_0 ?_)
  show R (some (.int (w_bc (nI y)))) _
  rw [bc_e hy]; exact h
theorem ok_M_sorts {x : Int32} (hd : 1 ≤ d) (h : R (some (.int (s_so x 8))) (am_mk I L, 0, 0)) : am_meth d 188 [.ref 113, .int x] (am_mk I L, 0, 0) R := by
  obtain ⟨d, rfl⟩ : ∃ e, d = e + 1 := ⟨d - 1, by omega⟩
  refine ar_in rfl rfl rfl (r_M_sorts_0 ?_)
  refine am_up (P := fun j => am_Run am_X0 (am_meth d) 188 R 4 [some (.ref 113), some (.int x), some (.int (s_so x j)), some (.int (nI j))] [] (am_mk I L, 0, 0)) (n := 8) ?_ (fun j hj ih => ?_)
  · exact r_M_sorts_4 ⟨fun c => absurd c (by decide), fun _ => h⟩
  · exact r_M_sorts_4 ⟨fun _ => ih, fun c => absurd (nI_lt (b := 8) hj (by decide)) c⟩
/-- the letters' values, in the order of LETTERS -/
def s_let (V : am_V) (k s : Nat) : Nat → Int32
  | 0 => s_tr V (nI k) (V 113 0)
  | 1 => s_kw V (nI k) (V 113 0)
  | 2 => V 119 k
  | 3 => s_so (V 123 (am_n V 125 s)) 8
  | 4 => V 127 s - V 126 s + 1
  | 5 => V 114 (s_tn V s)
  | 6 => V 125 s
  | 7 => nI k
  | 8 => V 126 s - V 113 0
  | _ => if s_tw V k = true then 1 else 0
def w_k7 (I' I : am_V) : Prop := ∀ c, c ≠ 74 → c ≠ 75 → c ≠ 76 → c ≠ 77 → c ≠ 84 → c ≠ 100 → I' c = I c
theorem ok_Ru_setLetters {k s : Nat} (hd : 4 ≤ d) (hc : RC I V) (hv : Inv V) (hk : k < 20) (hs : s < 60) (h : ∀ I' L', RC I' V → w_k7 I' I → I' 74 8 = V 113 0 → (∀ j, j < 10 → I' 100 j = s_let V k s j) → R none (am_mk I' L', 0, 0)) : am_meth d 108 [.ref 99, .int (nI k), .int (nI s)] (am_mk I L, 0, 0) R := by
  obtain ⟨d, rfl⟩ : ∃ e, d = e + 1 := ⟨d - 1, by omega⟩
  have ht := hv.1.1
  have ht2 := ht.2
  have v1 := hv.2.2.2.1.1 s hs
  refine ar_in rfl rfl rfl (r_Rules_setLetters_0 (by omega) ⟨hs, ?_⟩)
  have n3 : I 66 0 = V 113 0 := hc.1.2.2.1
  have e67 : I 67 = V 125 := hc.2.1.2.2.2.2.2.2.2.2.2.1
  rw [n3]
  refine ok_Re_know8 (by omega) hc hv ht.1 (by omega) (fun I2 L2 hc2 h6 kd k8 => ⟨_, _, rfl, rfl, hk, ?_⟩)
  rw [← ht.1] at kd k8
  obtain ⟨⟨m1, m2, m3, m4, m5, m6, m7, m8⟩, ⟨e1, e2, e3, e4, e5, e6, e7, e8, e9, e10, e11, e12, e13, e14, e15, e16, e17⟩, -⟩ := id hc2
  rintro _ rfl _ rfl _ rfl
  refine ⟨am_n V 125 s, v1.1.2, by rw [e67]; exact v1.1.1, ?_⟩
  have b := (hv.2.2.1 (am_n V 125 s) v1.1.2).2.2.2.2
  have b2 := b.2
  refine ok_bitCount (y := am_n V 123 (am_n V 125 s)) (by omega) (show I2 44 (am_n V 125 s) = _ from by rw [e9]; exact b.1) (by omega) ⟨_, _, _, rfl, rfl, ?_⟩
  rintro _ rfl
  refine ⟨hs, ?_⟩
  rintro _ rfl
  have n67 : am_n I2 67 s = am_n V 125 s := by unfold am_n; rw [e10]
  have ix67 : am_ix I2 67 s 20 := by unfold am_ix am_n; rw [e10]; exact v1.1
  have ix43 : am_ix I2 43 (am_n I2 67 s) 10 := by
    rw [n67]; unfold am_ix am_n; rw [e8]; exact (hv.2.2.1 _ v1.1.2).2.2.2.1
  have la : I2 3 (am_n I2 43 (am_n I2 67 s)) = V 114 (s_tn V s) := by rw [n67, e2]; unfold s_tn am_n; rw [e8]
  refine ⟨hs, ix67, ix43, ?_⟩
  rintro _ rfl _ rfl _ rfl _ rfl
  refine ok_Ru_hasBadTwin (V := V) (by omega) hc2 hv kd hk (fun c => ⟨_, _, _, rfl, rfl, fun z => absurd z (by decide), fun _ => ?_⟩) (fun c => ⟨_, _, _, rfl, rfl, fun _ => ?_, fun z => absurd rfl z⟩)
  · rintro _ rfl
    refine h _ _ hc2 (fun c c1 c2 c3 c4 c5 c6 => ?_) k8 (fun j hj => ?_)
    · simp only [am_vat, if_neg c6]; exact h6 c c1 c2 c3 c4 c5
    · match j, hj with
      | 0, _ => exact (kd.2 k hk).1
      | 1, _ => exact (kd.2 k hk).2
      | 2, _ => show I2 19 k = V 119 k; rw [e6]
      | 3, _ => show s_so (nI (am_n V 123 (am_n V 125 s))) 10 = s_so (V 123 (am_n V 125 s)) 8; rw [so_8 b.2, ← b.1]
      | 4, _ => show I2 69 s - I2 68 s + 1 = V 127 s - V 126 s + 1; rw [e11, e12]
      | 5, _ => exact la
      | 6, _ => show I 67 s = V 125 s; rw [e67]
      | 7, _ => rfl
      | 8, _ => show I2 68 s - I2 66 0 = V 126 s - V 113 0; rw [e11, m3]
      | 9, _ => show (1 : Int32) = if s_tw V k = true then 1 else 0; rw [if_pos c]
      | j + 10, hj => omega
  · rintro _ rfl
    refine h _ _ hc2 (fun c c1 c2 c3 c4 c5 c6 => ?_) k8 (fun j hj => ?_)
    · simp only [am_vat, if_neg c6]; exact h6 c c1 c2 c3 c4 c5
    · match j, hj with
      | 0, _ => exact (kd.2 k hk).1
      | 1, _ => exact (kd.2 k hk).2
      | 2, _ => show I2 19 k = V 119 k; rw [e6]
      | 3, _ => show s_so (nI (am_n V 123 (am_n V 125 s))) 10 = s_so (V 123 (am_n V 125 s)) 8; rw [so_8 b.2, ← b.1]
      | 4, _ => show I2 69 s - I2 68 s + 1 = V 127 s - V 126 s + 1; rw [e11, e12]
      | 5, _ => exact la
      | 6, _ => show I 67 s = V 125 s; rw [e67]
      | 7, _ => rfl
      | 8, _ => show I2 68 s - I2 66 0 = V 126 s - V 113 0; rw [e11, m3]
      | 9, _ => show (0 : Int32) = if s_tw V k = true then 1 else 0; rw [if_neg (by rw [c]; decide)]
      | j + 10, hj => omega
end LE
