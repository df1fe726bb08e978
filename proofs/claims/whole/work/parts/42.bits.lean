/-! bits of a number; alike -/
def am_bt (x : Int32) (k : Nat) : Bool := x.toBitVec.getLsbD k
theorem nI_31 {k : Nat} (hk : k < 32) : nI k &&& 31 = nI k := by
  have := pk_andN (n := k) (by omega) (m := 31) 5 rfl
  rw [this, Nat.mod_eq_of_lt (by omega)]
theorem nI_bv {k : Nat} (hk : k < 32) : ((nI k).toBitVec.smod 32).toNat = k := by
  revert k
  decide +kernel
theorem bt_one {i : Nat} : (1 : Int32).toBitVec.getLsbD i = decide (i = 0) := by
  show (1#32).getLsbD i = _
  rw [BitVec.getLsbD_one]
  by_cases e : i = 0
  · subst e; rfl
  · simp [e]
theorem bt_and1 {y : Int32} : y &&& 1 = 1 ↔ y.toBitVec.getLsbD 0 = true := by
  have e1 : (y &&& 1).toBitVec = y.toBitVec &&& (1 : Int32).toBitVec := rfl
  constructor
  · intro h
    have h2 : (y &&& 1).toBitVec.getLsbD 0 = (1 : Int32).toBitVec.getLsbD 0 := by rw [h]
    rw [e1, BitVec.getLsbD_and, bt_one] at h2
    simpa using h2
  · intro h
    apply Int32.toBitVec_inj.mp
    rw [e1]
    apply BitVec.eq_of_getLsbD_eq
    intro i hi
    rw [BitVec.getLsbD_and, bt_one]
    by_cases e : i = 0
    · subst e; rw [h]; rfl
    · simp [e]
theorem bt_and0 {y : Int32} : y &&& 1 = 0 ↔ y.toBitVec.getLsbD 0 = false := by
  have e1 : (y &&& 1).toBitVec = y.toBitVec &&& (1 : Int32).toBitVec := rfl
  constructor
  · intro h
    rcases q : y.toBitVec.getLsbD 0 with _ | _
    · rfl
    · have := bt_and1.mpr q; rw [this] at h; exact absurd h (by decide)
  · intro h
    apply Int32.toBitVec_inj.mp
    rw [e1]
    apply BitVec.eq_of_getLsbD_eq
    intro i hi
    rw [BitVec.getLsbD_and, bt_one]
    by_cases e : i = 0
    · subst e; rw [h]; rfl
    · simp [e]
theorem bt_shr {x : Int32} {k : Nat} (hk : k < 32) : (x >>> (nI k &&& 31)).toBitVec.getLsbD 0 = am_bt x k := by
  rw [nI_31 hk, Int32.toBitVec_shiftRight]
  show (x.toBitVec.sshiftRight ((nI k).toBitVec.smod 32).toNat).getLsbD 0 = _
  rw [nI_bv hk, BitVec.getLsbD_sshiftRight]
  simp [hk, am_bt]
theorem bt_t {x : Int32} {k : Nat} (hk : k < 32) : (x >>> (nI k &&& 31)) &&& 1 = 1 ↔ am_bt x k = true := by rw [bt_and1, bt_shr hk]
theorem bt_f {x : Int32} {k : Nat} (hk : k < 32) : (x >>> (nI k &&& 31)) &&& 1 = 0 ↔ am_bt x k = false := by rw [bt_and0, bt_shr hk]
theorem bt_sh {j k : Nat} (hj : j < 32) (hk : k < 32) : am_bt (1 <<< (nI j &&& 31)) k = decide (k = j) := by
  unfold am_bt
  rw [nI_31 hj, Int32.toBitVec_shiftLeft]
  show ((1 : Int32).toBitVec <<< ((nI j).toBitVec.smod 32).toNat).getLsbD k = _
  rw [nI_bv hj, BitVec.getLsbD_shiftLeft, bt_one]
  by_cases e : k = j
  · subst e; simp [hk]
  · by_cases c : k < j
    · simp [c, e]
    · have : ¬ k - j = 0 := by omega
      simp [this, e]
theorem bt_or {x : Int32} {j k : Nat} (hj : j < 32) (hk : k < 32) : am_bt (x ||| (1 <<< (nI j &&& 31))) k = (am_bt x k || decide (k = j)) := by
  rw [← bt_sh hj hk]
  unfold am_bt
  rw [Int32.toBitVec_or, BitVec.getLsbD_or]
theorem bt_xor {x : Int32} {j k : Nat} (hj : j < 32) (hk : k < 32) : am_bt (x ^^^ (1 <<< (nI j &&& 31))) k = (am_bt x k ^^ decide (k = j)) := by
  rw [← bt_sh hj hk]
  unfold am_bt
  rw [Int32.toBitVec_xor, BitVec.getLsbD_xor]
theorem bt_m1 {k : Nat} (hk : k < 32) : am_bt (-1) k = true := by
  revert k
  decide +kernel
theorem bt_off {x : Int32} {j k : Nat} (hj : j < 32) (hk : k < 32) : am_bt (x &&& ((1 <<< (nI j &&& 31)) ^^^ -1)) k = (am_bt x k && !decide (k = j)) := by
  have h := bt_m1 hk
  rw [← bt_sh hj hk]
  unfold am_bt at h ⊢
  rw [Int32.toBitVec_and, BitVec.getLsbD_and, Int32.toBitVec_xor, BitVec.getLsbD_xor, h, Bool.xor_true]
theorem bt_0 {k : Nat} : am_bt 0 k = false := by
  show (0#32).getLsbD k = false
  exact BitVec.getLsbD_zero
theorem bt_ext {x y : Int32} (h : ∀ k, k < 32 → am_bt x k = am_bt y k) : x = y := Int32.toBitVec_inj.mp (BitVec.eq_of_getLsbD_eq (fun i hi => h i hi))
/-! alike -/
def s_dv (x : Int32) : Nat → Int32
  | 0 => x
  | i + 1 => s_dv x i / 10
def s_df (x y : Int32) : Nat → Int32
  | 0 => 0
  | i + 1 => if s_dv x i - s_dv x i / 10 * 10 = s_dv y i - s_dv y i / 10 * 10 then s_df x y i else s_df x y i + 1
def s_al (V : am_V) (a b : Nat) : Bool := decide (s_df (V 120 a) (V 120 b) 5 < 2)
theorem df_comm {x y : Int32} (n : Nat) : s_df x y n = s_df y x n := by
  induction n with
  | zero => rfl
  | succ n ih =>
    unfold s_df
    rw [ih]
    by_cases c : s_dv x n - s_dv x n / 10 * 10 = s_dv y n - s_dv y n / 10 * 10
    · rw [if_pos c, if_pos c.symm]
    · rw [if_neg c, if_neg (fun q => c q.symm)]
theorem al_comm {V : am_V} {a b : Nat} : s_al V a b = s_al V b a := by unfold s_al; rw [df_comm]
section AL
variable {d : Nat} {I V : am_V} {L : Nat → Nat → Int64} {R : am_R}
theorem ok_Ke_areAlike {x y : Int32} {a b : Nat} (hd : 1 ≤ d) (hx : x = nI a) (hy : y = nI b) (ha : a < 20) (hb : b < 20) (h20 : I 20 = V 120) (h1 : s_al V a b = true → R (some (.int 1)) (am_mk I L, 0, 0)) (h0 : ¬ s_al V a b = true → R (some (.int 0)) (am_mk I L, 0, 0)) : am_meth d 55 [.ref 16, .int x, .int y] (am_mk I L, 0, 0) R := by
  obtain ⟨d, rfl⟩ : ∃ e, d = e + 1 := ⟨d - 1, by omega⟩
  subst hx; subst hy
  refine ar_in rfl rfl rfl (r_Keepers_areAlike_0 ⟨ha, hb, ?_⟩)
  rw [h20]
  unfold s_al at h1 h0
  rw [decide_eq_true_iff] at h1 h0
  generalize V 120 a = p at h1 h0 ⊢
  generalize V 120 b = q at h1 h0 ⊢
  refine am_up (P := fun i => am_Run am_X0 (am_meth d) 55 R 21 [some (.ref 16), none, none, some (.int (s_dv p i)), some (.int (s_dv q i)), some (.int (s_df p q i)), some (.int (nI i))] [] (am_mk I L, 0, 0)) (n := 5) ?_ (fun i hi ih => ?_)
  · refine r_Keepers_areAlike_21 ⟨fun c => absurd c (by decide), fun _ => ⟨fun c => h1 ?_, fun c => h0 (fun w => c ?_)⟩⟩
    · clear h1 h0; (simp (disch := omega) only [Int32.lt_iff_toInt_lt, Int32.le_iff_toInt_le, ← Int32.toInt_inj, Int32.reduceToInt, nI_toInt] at *; omega)
    · clear h1 h0; (simp (disch := omega) only [Int32.lt_iff_toInt_lt, Int32.le_iff_toInt_le, ← Int32.toInt_inj, Int32.reduceToInt, nI_toInt] at *; omega)
  · refine r_Keepers_areAlike_21 ⟨fun _ => ⟨fun c => ?_, fun c => ?_⟩, fun c => absurd (nI_lt (b := 5) hi (by decide)) c⟩
    · rw [s_df, if_pos c] at ih; exact ih
    · rw [s_df, if_neg c] at ih; exact ih
theorem ok_M_alike {x y : Int32} {a b : Nat} (hd : 1 ≤ d) (hx : x = nI a) (hy : y = nI b) (ha : a < 20) (hb : b < 20) (h20 : I 120 = V 120) (h1 : s_al V a b = true → R (some (.int 1)) (am_mk I L, 0, 0)) (h0 : ¬ s_al V a b = true → R (some (.int 0)) (am_mk I L, 0, 0)) : am_meth d 189 [.ref 113, .int x, .int y] (am_mk I L, 0, 0) R := by
  obtain ⟨d, rfl⟩ : ∃ e, d = e + 1 := ⟨d - 1, by omega⟩
  subst hx; subst hy
  refine ar_in rfl rfl rfl (r_M_alike_0 ⟨ha, hb, ?_⟩)
  rw [h20]
  unfold s_al at h1 h0
  rw [decide_eq_true_iff] at h1 h0
  generalize V 120 a = p at h1 h0 ⊢
  generalize V 120 b = q at h1 h0 ⊢
  refine am_up (P := fun i => am_Run am_X0 (am_meth d) 189 R 21 [some (.ref 113), none, none, some (.int (s_df p q i)), some (.int (s_dv p i)), some (.int (s_dv q i)), some (.int (nI i))] [] (am_mk I L, 0, 0)) (n := 5) ?_ (fun i hi ih => ?_)
  · exact r_M_alike_21 ⟨fun c => absurd c (by decide), fun _ => ⟨fun c => h1 c, fun c => h0 c⟩⟩
  · refine r_M_alike_21 ⟨fun _ => ⟨fun c => ?_, fun c => ?_⟩, fun c => absurd (nI_lt (b := 5) hi (by decide)) c⟩
    · rw [s_df, if_pos c] at ih; exact ih
    · rw [s_df, if_neg c] at ih; exact ih
end AL
