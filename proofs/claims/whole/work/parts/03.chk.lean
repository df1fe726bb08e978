/-! what the tables say of the names: by program, closed by the kernel -/
def am_TB : List Cond := lw_tbl.filter goodWord
def am_ok (p : Nat) (w : Cond) : Bool := decide (lw_tbl[p]? = some w) && goodWord w
theorem am_ok_mem {p : Nat} {w : Cond} (h : am_ok p w = true) : w ∈ am_TB := by
  simp only [am_ok, Bool.and_eq_true, decide_eq_true_eq] at h
  exact List.mem_filter.mpr ⟨List.mem_of_getElem? h.1, h.2⟩
def am_nC : Nat := 20
theorem am_k_f : (List.range am_nC).all (fun own => (am_fls.getD own []).all (fun e => decide (e.2.1 < am_nO) && decide (e.2.2.1 < am_N e.2.1) && am_ok e.2.2.2 (.fieldLink (am_cn own) e.1 (am_F e.2.1 e.2.2.1).1 (am_F e.2.1 e.2.2.1).2.1 (am_F e.2.1 e.2.2.1).2.2.1))) = true := by decide +kernel
def am_nM : Nat := 258
/-- links of private constructors of nest mates: index, method -/
def am_nst : List (Nat × Nat) := [(22, 52), (52, 125)]
theorem am_k_l : (List.range am_nC).all (fun own => (am_mls.getD own []).all (fun e => decide (e.2.1 < am_nM ∨ e.2.1 = am_acp) && (am_ok e.2.2 (.methodLink (am_cn own) e.1 (am_y e.2.1)) || (decide (own = 0) && decide (am_kd e.2.1 = 2) && am_nst.contains (e.1, e.2.1))))) = true := by decide +kernel
def am_mok (k : Nat) : Bool := am_ok (am_mp.getD k (0, 0, 0, 0)).2.1 (if am_kd k = 1 then .static (am_y k) else .instanceMethod (am_y k)) && (!(decide (am_kd k = 0)) || am_ok (am_mp.getD k (0, 0, 0, 0)).2.2.1 (.selects (am_cn (am_own k)) (am_y k) (am_y k))) && am_ok (am_mp.getD k (0, 0, 0, 0)).2.2.2 (.initialized (am_cn (am_own k)))
def am_mok2 (k : Nat) : Bool := (plainName (am_cn (am_own k)) || decide (am_own k = am_cmath)) && !(decide (am_cn (am_own k) = "java/lang/invoke/MethodHandle")) && !(decide (am_cn (am_own k) = "java/lang/invoke/VarHandle")) && decide ((parseMethodDescriptor (am_y k).desc).map (fun d => d.parameters.length) = some (am_na k)) && decide ((am_kd k = 2) ↔ ((am_y k).name = "<init>")) && decide (am_own k < am_nC) && (!(decide (am_kd k = 2)) || decide (am_rt k = none)) && (!(decide (am_kd k = 0)) || (decide (am_own k < am_nO) || decide (am_own k = am_str)))

theorem am_k_m0 : (List.range' 0 43).all am_mok = true := by decide +kernel
theorem am_k_m1 : (List.range' 43 43).all am_mok = true := by decide +kernel
theorem am_k_m2 : (List.range' 86 43).all am_mok = true := by decide +kernel
theorem am_k_m3 : (List.range' 129 43).all am_mok = true := by decide +kernel
theorem am_k_m4 : (List.range' 172 43).all am_mok = true := by decide +kernel
theorem am_k_m5 : (List.range' 215 43).all am_mok = true := by decide +kernel
theorem am_k_n : (List.range am_nM).all am_mok2 = true := by decide +kernel
theorem am_k_ci : (List.range am_nC).all (fun own => (am_cis.getD own []).all (fun e => am_ok e.2.2 (.constant (am_cn own) e.1 e.2.1))) = true := by decide +kernel
theorem am_k_cj : (List.range am_nC).all (fun own => (am_cjs.getD own []).all (fun e => am_ok e.2.2 (.constantLong (am_cn own) e.1 e.2.1))) = true := by decide +kernel
theorem am_k_nw : (List.range am_nC).all (fun own => (am_nws.getD own []).all (fun e => decide (e.2.1 < am_nO) && am_ok e.2.2 (.classLink (am_cn own) e.1 (am_cn e.2.1)))) = true := by decide +kernel
def am_cok (c : Nat) : Bool := am_ok (am_cp.getD c (0, 0, [])).1 (.instantiable (am_cn c) (am_N c)) && am_ok (am_cp.getD c (0, 0, [])).2.1 (.initialized (am_cn c)) && (List.range (am_N c)).all (fun j => am_ok ((am_cp.getD c (0, 0, [])).2.2.getD j 0) (u_lay (am_cn c) (am_F c) j) && decide (parseFieldDescriptor (am_F c j).2.2.1 = some (am_T c j)) && decide ((am_F c j).1 = am_cn c))
theorem am_k_c : (List.range am_nO).all am_cok = true := by decide +kernel
theorem am_k_d : ∀ c, c < am_nO → ∀ a, a < am_N c → ∀ b, b < am_N c → a ≠ b → (am_F c a).2.1 ≠ (am_F c b).2.1 := by decide +kernel
theorem am_k_oi : (List.range am_nO).all (fun c => am_ok (am_ois.getD c (0, 0)).2 (.methodLink (am_cn c) (am_oi c) objectInit)) = true := by decide +kernel
theorem am_k_oj : (am_ok am_oip.1 (.instanceMethod objectInit) && am_ok am_oip.2 (.code objectInit ⟨#[0xb1]⟩ 1 none)) = true := by decide +kernel
theorem am_k_mn : (List.range am_nC).all (fun own => (am_mns.getD own []).all (fun e => am_ok e.2 (.classLink (am_cn own) e.1 "[[I"))) = true := by decide +kernel
theorem am_k_ar : (am_ok am_arp.1 (.arrayClass .int) && am_ok am_arp.2.1 (.arrayClass .byte) && am_ok am_arp.2.2.1 (.arrayClass .boolean) && am_ok am_arp.2.2.2.1 (.arrayClass .long)) = true := by decide +kernel
theorem am_k_ao : lw_tbl[am_arp.2.2.2.2]? = some (.arrayOver (.array .int)) := by decide +kernel
