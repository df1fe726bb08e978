/-! letters -/
def s_so (x : Int32) : Nat → Int32
  | 0 => 0
  | j + 1 => s_so x j + ((x >>> (nI j &&& 31)) &&& 1)
theorem bc_e {y : Nat} (hy : y < 1024) : w_bc (nI y) = s_so (nI y) 10 := by
  revert y
  decide +kernel
theorem so_8 {y : Nat} (hy : y < 256) : s_so (nI y) 10 = s_so (nI y) 8 := by
  revert y
  decide +kernel
