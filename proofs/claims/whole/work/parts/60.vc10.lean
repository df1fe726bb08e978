theorem r_Int_bitCount_0 {d : Nat} {R : am_R} {I : Nat → Nat → Int32} {L : Nat → Nat → Int64} {x : Int32} (h : R (some (.int ((((((((x - ((((x : Int32).toUInt32 >>> ((1 : Int32).toUInt32 &&& Int32.toUInt32 31)).toInt32) &&& 1431655765)) &&& 858993459) + ((((x - ((((x : Int32).toUInt32 >>> ((1 : Int32).toUInt32 &&& Int32.toUInt32 31)).toInt32) &&& 1431655765) : Int32).toUInt32 >>> ((2 : Int32).toUInt32 &&& Int32.toUInt32 31)).toInt32) &&& 858993459)) + (((((x - ((((x : Int32).toUInt32 >>> ((1 : Int32).toUInt32 &&& Int32.toUInt32 31)).toInt32) &&& 1431655765)) &&& 858993459) + ((((x - ((((x : Int32).toUInt32 >>> ((1 : Int32).toUInt32 &&& Int32.toUInt32 31)).toInt32) &&& 1431655765) : Int32).toUInt32 >>> ((2 : Int32).toUInt32 &&& Int32.toUInt32 31)).toInt32) &&& 858993459) : Int32).toUInt32 >>> ((4 : Int32).toUInt32 &&& Int32.toUInt32 31)).toInt32)) &&& 252645135) + (((((((x - ((((x : Int32).toUInt32 >>> ((1 : Int32).toUInt32 &&& Int32.toUInt32 31)).toInt32) &&& 1431655765)) &&& 858993459) + ((((x - ((((x : Int32).toUInt32 >>> ((1 : Int32).toUInt32 &&& Int32.toUInt32 31)).toInt32) &&& 1431655765) : Int32).toUInt32 >>> ((2 : Int32).toUInt32 &&& Int32.toUInt32 31)).toInt32) &&& 858993459)) + (((((x - ((((x : Int32).toUInt32 >>> ((1 : Int32).toUInt32 &&& Int32.toUInt32 31)).toInt32) &&& 1431655765)) &&& 858993459) + ((((x - ((((x : Int32).toUInt32 >>> ((1 : Int32).toUInt32 &&& Int32.toUInt32 31)).toInt32) &&& 1431655765) : Int32).toUInt32 >>> ((2 : Int32).toUInt32 &&& Int32.toUInt32 31)).toInt32) &&& 858993459) : Int32).toUInt32 >>> ((4 : Int32).toUInt32 &&& Int32.toUInt32 31)).toInt32)) &&& 252645135 : Int32).toUInt32 >>> ((8 : Int32).toUInt32 &&& Int32.toUInt32 31)).toInt32)) + ((((((((x - ((((x : Int32).toUInt32 >>> ((1 : Int32).toUInt32 &&& Int32.toUInt32 31)).toInt32) &&& 1431655765)) &&& 858993459) + ((((x - ((((x : Int32).toUInt32 >>> ((1 : Int32).toUInt32 &&& Int32.toUInt32 31)).toInt32) &&& 1431655765) : Int32).toUInt32 >>> ((2 : Int32).toUInt32 &&& Int32.toUInt32 31)).toInt32) &&& 858993459)) + (((((x - ((((x : Int32).toUInt32 >>> ((1 : Int32).toUInt32 &&& Int32.toUInt32 31)).toInt32) &&& 1431655765)) &&& 858993459) + ((((x - ((((x : Int32).toUInt32 >>> ((1 : Int32).toUInt32 &&& Int32.toUInt32 31)).toInt32) &&& 1431655765) : Int32).toUInt32 >>> ((2 : Int32).toUInt32 &&& Int32.toUInt32 31)).toInt32) &&& 858993459) : Int32).toUInt32 >>> ((4 : Int32).toUInt32 &&& Int32.toUInt32 31)).toInt32)) &&& 252645135) + (((((((x - ((((x : Int32).toUInt32 >>> ((1 : Int32).toUInt32 &&& Int32.toUInt32 31)).toInt32) &&& 1431655765)) &&& 858993459) + ((((x - ((((x : Int32).toUInt32 >>> ((1 : Int32).toUInt32 &&& Int32.toUInt32 31)).toInt32) &&& 1431655765) : Int32).toUInt32 >>> ((2 : Int32).toUInt32 &&& Int32.toUInt32 31)).toInt32) &&& 858993459)) + (((((x - ((((x : Int32).toUInt32 >>> ((1 : Int32).toUInt32 &&& Int32.toUInt32 31)).toInt32) &&& 1431655765)) &&& 858993459) + ((((x - ((((x : Int32).toUInt32 >>> ((1 : Int32).toUInt32 &&& Int32.toUInt32 31)).toInt32) &&& 1431655765) : Int32).toUInt32 >>> ((2 : Int32).toUInt32 &&& Int32.toUInt32 31)).toInt32) &&& 858993459) : Int32).toUInt32 >>> ((4 : Int32).toUInt32 &&& Int32.toUInt32 31)).toInt32)) &&& 252645135 : Int32).toUInt32 >>> ((8 : Int32).toUInt32 &&& Int32.toUInt32 31)).toInt32) : Int32).toUInt32 >>> ((16 : Int32).toUInt32 &&& Int32.toUInt32 31)).toInt32)) &&& 63))) (am_mk I L, 0, 0)) : am_Run am_X0 (am_meth d) 248 R 0 [some (.int x)] [] (am_mk I L, 0, 0) := by
  refine ar_iload_n (j := 0) (q := 1) rfl rfl rfl rfl ?_
  refine ar_iload_n (j := 0) (q := 2) rfl rfl rfl rfl ?_
  refine ar_iconst (v := 1) (q := 3) rfl rfl rfl ?_
  refine ar_ib (i := .iushr) (z := ((x : Int32).toUInt32 >>> ((1 : Int32).toUInt32 &&& Int32.toUInt32 31)).toInt32) (q := 4) rfl rfl rfl rfl rfl ?_
  refine ar_ldcw (v := 1431655765) (q := 7) rfl rfl rfl ?_
  refine ar_ib (i := .iand) (z := (((x : Int32).toUInt32 >>> ((1 : Int32).toUInt32 &&& Int32.toUInt32 31)).toInt32) &&& 1431655765) (q := 8) rfl rfl rfl rfl rfl ?_
  refine ar_ib (i := .isub) (z := x - ((((x : Int32).toUInt32 >>> ((1 : Int32).toUInt32 &&& Int32.toUInt32 31)).toInt32) &&& 1431655765)) (q := 9) rfl rfl rfl rfl rfl ?_
  refine ar_istore_n (j := 0) (ls' := [some (.int (x - ((((x : Int32).toUInt32 >>> ((1 : Int32).toUInt32 &&& Int32.toUInt32 31)).toInt32) &&& 1431655765)))]) (q := 10) rfl rfl rfl rfl rfl ?_
  refine ar_iload_n (j := 0) (q := 11) rfl rfl rfl rfl ?_
  refine ar_ldcw (v := 858993459) (q := 14) rfl rfl rfl ?_
  refine ar_ib (i := .iand) (z := (x - ((((x : Int32).toUInt32 >>> ((1 : Int32).toUInt32 &&& Int32.toUInt32 31)).toInt32) &&& 1431655765)) &&& 858993459) (q := 15) rfl rfl rfl rfl rfl ?_
  refine ar_iload_n (j := 0) (q := 16) rfl rfl rfl rfl ?_
  refine ar_iconst (v := 2) (q := 17) rfl rfl rfl ?_
  refine ar_ib (i := .iushr) (z := ((x - ((((x : Int32).toUInt32 >>> ((1 : Int32).toUInt32 &&& Int32.toUInt32 31)).toInt32) &&& 1431655765) : Int32).toUInt32 >>> ((2 : Int32).toUInt32 &&& Int32.toUInt32 31)).toInt32) (q := 18) rfl rfl rfl rfl rfl ?_
  refine ar_ldcw (v := 858993459) (q := 21) rfl rfl rfl ?_
  refine ar_ib (i := .iand) (z := (((x - ((((x : Int32).toUInt32 >>> ((1 : Int32).toUInt32 &&& Int32.toUInt32 31)).toInt32) &&& 1431655765) : Int32).toUInt32 >>> ((2 : Int32).toUInt32 &&& Int32.toUInt32 31)).toInt32) &&& 858993459) (q := 22) rfl rfl rfl rfl rfl ?_
  refine ar_ib (i := .iadd) (z := ((x - ((((x : Int32).toUInt32 >>> ((1 : Int32).toUInt32 &&& Int32.toUInt32 31)).toInt32) &&& 1431655765)) &&& 858993459) + ((((x - ((((x : Int32).toUInt32 >>> ((1 : Int32).toUInt32 &&& Int32.toUInt32 31)).toInt32) &&& 1431655765) : Int32).toUInt32 >>> ((2 : Int32).toUInt32 &&& Int32.toUInt32 31)).toInt32) &&& 858993459)) (q := 23) rfl rfl rfl rfl rfl ?_
  refine ar_istore_n (j := 0) (ls' := [some (.int (((x - ((((x : Int32).toUInt32 >>> ((1 : Int32).toUInt32 &&& Int32.toUInt32 31)).toInt32) &&& 1431655765)) &&& 858993459) + ((((x - ((((x : Int32).toUInt32 >>> ((1 : Int32).toUInt32 &&& Int32.toUInt32 31)).toInt32) &&& 1431655765) : Int32).toUInt32 >>> ((2 : Int32).toUInt32 &&& Int32.toUInt32 31)).toInt32) &&& 858993459)))]) (q := 24) rfl rfl rfl rfl rfl ?_
  refine ar_iload_n (j := 0) (q := 25) rfl rfl rfl rfl ?_
  refine ar_iload_n (j := 0) (q := 26) rfl rfl rfl rfl ?_
  refine ar_iconst (v := 4) (q := 27) rfl rfl rfl ?_
  refine ar_ib (i := .iushr) (z := ((((x - ((((x : Int32).toUInt32 >>> ((1 : Int32).toUInt32 &&& Int32.toUInt32 31)).toInt32) &&& 1431655765)) &&& 858993459) + ((((x - ((((x : Int32).toUInt32 >>> ((1 : Int32).toUInt32 &&& Int32.toUInt32 31)).toInt32) &&& 1431655765) : Int32).toUInt32 >>> ((2 : Int32).toUInt32 &&& Int32.toUInt32 31)).toInt32) &&& 858993459) : Int32).toUInt32 >>> ((4 : Int32).toUInt32 &&& Int32.toUInt32 31)).toInt32) (q := 28) rfl rfl rfl rfl rfl ?_
  refine ar_ib (i := .iadd) (z := (((x - ((((x : Int32).toUInt32 >>> ((1 : Int32).toUInt32 &&& Int32.toUInt32 31)).toInt32) &&& 1431655765)) &&& 858993459) + ((((x - ((((x : Int32).toUInt32 >>> ((1 : Int32).toUInt32 &&& Int32.toUInt32 31)).toInt32) &&& 1431655765) : Int32).toUInt32 >>> ((2 : Int32).toUInt32 &&& Int32.toUInt32 31)).toInt32) &&& 858993459)) + (((((x - ((((x : Int32).toUInt32 >>> ((1 : Int32).toUInt32 &&& Int32.toUInt32 31)).toInt32) &&& 1431655765)) &&& 858993459) + ((((x - ((((x : Int32).toUInt32 >>> ((1 : Int32).toUInt32 &&& Int32.toUInt32 31)).toInt32) &&& 1431655765) : Int32).toUInt32 >>> ((2 : Int32).toUInt32 &&& Int32.toUInt32 31)).toInt32) &&& 858993459) : Int32).toUInt32 >>> ((4 : Int32).toUInt32 &&& Int32.toUInt32 31)).toInt32)) (q := 29) rfl rfl rfl rfl rfl ?_
  refine ar_ldcw (v := 252645135) (q := 32) rfl rfl rfl ?_
  refine ar_ib (i := .iand) (z := ((((x - ((((x : Int32).toUInt32 >>> ((1 : Int32).toUInt32 &&& Int32.toUInt32 31)).toInt32) &&& 1431655765)) &&& 858993459) + ((((x - ((((x : Int32).toUInt32 >>> ((1 : Int32).toUInt32 &&& Int32.toUInt32 31)).toInt32) &&& 1431655765) : Int32).toUInt32 >>> ((2 : Int32).toUInt32 &&& Int32.toUInt32 31)).toInt32) &&& 858993459)) + (((((x - ((((x : Int32).toUInt32 >>> ((1 : Int32).toUInt32 &&& Int32.toUInt32 31)).toInt32) &&& 1431655765)) &&& 858993459) + ((((x - ((((x : Int32).toUInt32 >>> ((1 : Int32).toUInt32 &&& Int32.toUInt32 31)).toInt32) &&& 1431655765) : Int32).toUInt32 >>> ((2 : Int32).toUInt32 &&& Int32.toUInt32 31)).toInt32) &&& 858993459) : Int32).toUInt32 >>> ((4 : Int32).toUInt32 &&& Int32.toUInt32 31)).toInt32)) &&& 252645135) (q := 33) rfl rfl rfl rfl rfl ?_
  refine ar_istore_n (j := 0) (ls' := [some (.int (((((x - ((((x : Int32).toUInt32 >>> ((1 : Int32).toUInt32 &&& Int32.toUInt32 31)).toInt32) &&& 1431655765)) &&& 858993459) + ((((x - ((((x : Int32).toUInt32 >>> ((1 : Int32).toUInt32 &&& Int32.toUInt32 31)).toInt32) &&& 1431655765) : Int32).toUInt32 >>> ((2 : Int32).toUInt32 &&& Int32.toUInt32 31)).toInt32) &&& 858993459)) + (((((x - ((((x : Int32).toUInt32 >>> ((1 : Int32).toUInt32 &&& Int32.toUInt32 31)).toInt32) &&& 1431655765)) &&& 858993459) + ((((x - ((((x : Int32).toUInt32 >>> ((1 : Int32).toUInt32 &&& Int32.toUInt32 31)).toInt32) &&& 1431655765) : Int32).toUInt32 >>> ((2 : Int32).toUInt32 &&& Int32.toUInt32 31)).toInt32) &&& 858993459) : Int32).toUInt32 >>> ((4 : Int32).toUInt32 &&& Int32.toUInt32 31)).toInt32)) &&& 252645135))]) (q := 34) rfl rfl rfl rfl rfl ?_
  refine ar_iload_n (j := 0) (q := 35) rfl rfl rfl rfl ?_
  refine ar_iload_n (j := 0) (q := 36) rfl rfl rfl rfl ?_
  refine ar_bipush (v := 8) (q := 38) rfl rfl rfl ?_
  refine ar_ib (i := .iushr) (z := ((((((x - ((((x : Int32).toUInt32 >>> ((1 : Int32).toUInt32 &&& Int32.toUInt32 31)).toInt32) &&& 1431655765)) &&& 858993459) + ((((x - ((((x : Int32).toUInt32 >>> ((1 : Int32).toUInt32 &&& Int32.toUInt32 31)).toInt32) &&& 1431655765) : Int32).toUInt32 >>> ((2 : Int32).toUInt32 &&& Int32.toUInt32 31)).toInt32) &&& 858993459)) + (((((x - ((((x : Int32).toUInt32 >>> ((1 : Int32).toUInt32 &&& Int32.toUInt32 31)).toInt32) &&& 1431655765)) &&& 858993459) + ((((x - ((((x : Int32).toUInt32 >>> ((1 : Int32).toUInt32 &&& Int32.toUInt32 31)).toInt32) &&& 1431655765) : Int32).toUInt32 >>> ((2 : Int32).toUInt32 &&& Int32.toUInt32 31)).toInt32) &&& 858993459) : Int32).toUInt32 >>> ((4 : Int32).toUInt32 &&& Int32.toUInt32 31)).toInt32)) &&& 252645135 : Int32).toUInt32 >>> ((8 : Int32).toUInt32 &&& Int32.toUInt32 31)).toInt32) (q := 39) rfl rfl rfl rfl rfl ?_
  refine ar_ib (i := .iadd) (z := (((((x - ((((x : Int32).toUInt32 >>> ((1 : Int32).toUInt32 &&& Int32.toUInt32 31)).toInt32) &&& 1431655765)) &&& 858993459) + ((((x - ((((x : Int32).toUInt32 >>> ((1 : Int32).toUInt32 &&& Int32.toUInt32 31)).toInt32) &&& 1431655765) : Int32).toUInt32 >>> ((2 : Int32).toUInt32 &&& Int32.toUInt32 31)).toInt32) &&& 858993459)) + (((((x - ((((x : Int32).toUInt32 >>> ((1 : Int32).toUInt32 &&& Int32.toUInt32 31)).toInt32) &&& 1431655765)) &&& 858993459) + ((((x - ((((x : Int32).toUInt32 >>> ((1 : Int32).toUInt32 &&& Int32.toUInt32 31)).toInt32) &&& 1431655765) : Int32).toUInt32 >>> ((2 : Int32).toUInt32 &&& Int32.toUInt32 31)).toInt32) &&& 858993459) : Int32).toUInt32 >>> ((4 : Int32).toUInt32 &&& Int32.toUInt32 31)).toInt32)) &&& 252645135) + (((((((x - ((((x : Int32).toUInt32 >>> ((1 : Int32).toUInt32 &&& Int32.toUInt32 31)).toInt32) &&& 1431655765)) &&& 858993459) + ((((x - ((((x : Int32).toUInt32 >>> ((1 : Int32).toUInt32 &&& Int32.toUInt32 31)).toInt32) &&& 1431655765) : Int32).toUInt32 >>> ((2 : Int32).toUInt32 &&& Int32.toUInt32 31)).toInt32) &&& 858993459)) + (((((x - ((((x : Int32).toUInt32 >>> ((1 : Int32).toUInt32 &&& Int32.toUInt32 31)).toInt32) &&& 1431655765)) &&& 858993459) + ((((x - ((((x : Int32).toUInt32 >>> ((1 : Int32).toUInt32 &&& Int32.toUInt32 31)).toInt32) &&& 1431655765) : Int32).toUInt32 >>> ((2 : Int32).toUInt32 &&& Int32.toUInt32 31)).toInt32) &&& 858993459) : Int32).toUInt32 >>> ((4 : Int32).toUInt32 &&& Int32.toUInt32 31)).toInt32)) &&& 252645135 : Int32).toUInt32 >>> ((8 : Int32).toUInt32 &&& Int32.toUInt32 31)).toInt32)) (q := 40) rfl rfl rfl rfl rfl ?_
  refine ar_istore_n (j := 0) (ls' := [some (.int ((((((x - ((((x : Int32).toUInt32 >>> ((1 : Int32).toUInt32 &&& Int32.toUInt32 31)).toInt32) &&& 1431655765)) &&& 858993459) + ((((x - ((((x : Int32).toUInt32 >>> ((1 : Int32).toUInt32 &&& Int32.toUInt32 31)).toInt32) &&& 1431655765) : Int32).toUInt32 >>> ((2 : Int32).toUInt32 &&& Int32.toUInt32 31)).toInt32) &&& 858993459)) + (((((x - ((((x : Int32).toUInt32 >>> ((1 : Int32).toUInt32 &&& Int32.toUInt32 31)).toInt32) &&& 1431655765)) &&& 858993459) + ((((x - ((((x : Int32).toUInt32 >>> ((1 : Int32).toUInt32 &&& Int32.toUInt32 31)).toInt32) &&& 1431655765) : Int32).toUInt32 >>> ((2 : Int32).toUInt32 &&& Int32.toUInt32 31)).toInt32) &&& 858993459) : Int32).toUInt32 >>> ((4 : Int32).toUInt32 &&& Int32.toUInt32 31)).toInt32)) &&& 252645135) + (((((((x - ((((x : Int32).toUInt32 >>> ((1 : Int32).toUInt32 &&& Int32.toUInt32 31)).toInt32) &&& 1431655765)) &&& 858993459) + ((((x - ((((x : Int32).toUInt32 >>> ((1 : Int32).toUInt32 &&& Int32.toUInt32 31)).toInt32) &&& 1431655765) : Int32).toUInt32 >>> ((2 : Int32).toUInt32 &&& Int32.toUInt32 31)).toInt32) &&& 858993459)) + (((((x - ((((x : Int32).toUInt32 >>> ((1 : Int32).toUInt32 &&& Int32.toUInt32 31)).toInt32) &&& 1431655765)) &&& 858993459) + ((((x - ((((x : Int32).toUInt32 >>> ((1 : Int32).toUInt32 &&& Int32.toUInt32 31)).toInt32) &&& 1431655765) : Int32).toUInt32 >>> ((2 : Int32).toUInt32 &&& Int32.toUInt32 31)).toInt32) &&& 858993459) : Int32).toUInt32 >>> ((4 : Int32).toUInt32 &&& Int32.toUInt32 31)).toInt32)) &&& 252645135 : Int32).toUInt32 >>> ((8 : Int32).toUInt32 &&& Int32.toUInt32 31)).toInt32)))]) (q := 41) rfl rfl rfl rfl rfl ?_
  refine ar_iload_n (j := 0) (q := 42) rfl rfl rfl rfl ?_
  refine ar_iload_n (j := 0) (q := 43) rfl rfl rfl rfl ?_
  refine ar_bipush (v := 16) (q := 45) rfl rfl rfl ?_
  refine ar_ib (i := .iushr) (z := (((((((x - ((((x : Int32).toUInt32 >>> ((1 : Int32).toUInt32 &&& Int32.toUInt32 31)).toInt32) &&& 1431655765)) &&& 858993459) + ((((x - ((((x : Int32).toUInt32 >>> ((1 : Int32).toUInt32 &&& Int32.toUInt32 31)).toInt32) &&& 1431655765) : Int32).toUInt32 >>> ((2 : Int32).toUInt32 &&& Int32.toUInt32 31)).toInt32) &&& 858993459)) + (((((x - ((((x : Int32).toUInt32 >>> ((1 : Int32).toUInt32 &&& Int32.toUInt32 31)).toInt32) &&& 1431655765)) &&& 858993459) + ((((x - ((((x : Int32).toUInt32 >>> ((1 : Int32).toUInt32 &&& Int32.toUInt32 31)).toInt32) &&& 1431655765) : Int32).toUInt32 >>> ((2 : Int32).toUInt32 &&& Int32.toUInt32 31)).toInt32) &&& 858993459) : Int32).toUInt32 >>> ((4 : Int32).toUInt32 &&& Int32.toUInt32 31)).toInt32)) &&& 252645135) + (((((((x - ((((x : Int32).toUInt32 >>> ((1 : Int32).toUInt32 &&& Int32.toUInt32 31)).toInt32) &&& 1431655765)) &&& 858993459) + ((((x - ((((x : Int32).toUInt32 >>> ((1 : Int32).toUInt32 &&& Int32.toUInt32 31)).toInt32) &&& 1431655765) : Int32).toUInt32 >>> ((2 : Int32).toUInt32 &&& Int32.toUInt32 31)).toInt32) &&& 858993459)) + (((((x - ((((x : Int32).toUInt32 >>> ((1 : Int32).toUInt32 &&& Int32.toUInt32 31)).toInt32) &&& 1431655765)) &&& 858993459) + ((((x - ((((x : Int32).toUInt32 >>> ((1 : Int32).toUInt32 &&& Int32.toUInt32 31)).toInt32) &&& 1431655765) : Int32).toUInt32 >>> ((2 : Int32).toUInt32 &&& Int32.toUInt32 31)).toInt32) &&& 858993459) : Int32).toUInt32 >>> ((4 : Int32).toUInt32 &&& Int32.toUInt32 31)).toInt32)) &&& 252645135 : Int32).toUInt32 >>> ((8 : Int32).toUInt32 &&& Int32.toUInt32 31)).toInt32) : Int32).toUInt32 >>> ((16 : Int32).toUInt32 &&& Int32.toUInt32 31)).toInt32) (q := 46) rfl rfl rfl rfl rfl ?_
  refine ar_ib (i := .iadd) (z := ((((((x - ((((x : Int32).toUInt32 >>> ((1 : Int32).toUInt32 &&& Int32.toUInt32 31)).toInt32) &&& 1431655765)) &&& 858993459) + ((((x - ((((x : Int32).toUInt32 >>> ((1 : Int32).toUInt32 &&& Int32.toUInt32 31)).toInt32) &&& 1431655765) : Int32).toUInt32 >>> ((2 : Int32).toUInt32 &&& Int32.toUInt32 31)).toInt32) &&& 858993459)) + (((((x - ((((x : Int32).toUInt32 >>> ((1 : Int32).toUInt32 &&& Int32.toUInt32 31)).toInt32) &&& 1431655765)) &&& 858993459) + ((((x - ((((x : Int32).toUInt32 >>> ((1 : Int32).toUInt32 &&& Int32.toUInt32 31)).toInt32) &&& 1431655765) : Int32).toUInt32 >>> ((2 : Int32).toUInt32 &&& Int32.toUInt32 31)).toInt32) &&& 858993459) : Int32).toUInt32 >>> ((4 : Int32).toUInt32 &&& Int32.toUInt32 31)).toInt32)) &&& 252645135) + (((((((x - ((((x : Int32).toUInt32 >>> ((1 : Int32).toUInt32 &&& Int32.toUInt32 31)).toInt32) &&& 1431655765)) &&& 858993459) + ((((x - ((((x : Int32).toUInt32 >>> ((1 : Int32).toUInt32 &&& Int32.toUInt32 31)).toInt32) &&& 1431655765) : Int32).toUInt32 >>> ((2 : Int32).toUInt32 &&& Int32.toUInt32 31)).toInt32) &&& 858993459)) + (((((x - ((((x : Int32).toUInt32 >>> ((1 : Int32).toUInt32 &&& Int32.toUInt32 31)).toInt32) &&& 1431655765)) &&& 858993459) + ((((x - ((((x : Int32).toUInt32 >>> ((1 : Int32).toUInt32 &&& Int32.toUInt32 31)).toInt32) &&& 1431655765) : Int32).toUInt32 >>> ((2 : Int32).toUInt32 &&& Int32.toUInt32 31)).toInt32) &&& 858993459) : Int32).toUInt32 >>> ((4 : Int32).toUInt32 &&& Int32.toUInt32 31)).toInt32)) &&& 252645135 : Int32).toUInt32 >>> ((8 : Int32).toUInt32 &&& Int32.toUInt32 31)).toInt32)) + ((((((((x - ((((x : Int32).toUInt32 >>> ((1 : Int32).toUInt32 &&& Int32.toUInt32 31)).toInt32) &&& 1431655765)) &&& 858993459) + ((((x - ((((x : Int32).toUInt32 >>> ((1 : Int32).toUInt32 &&& Int32.toUInt32 31)).toInt32) &&& 1431655765) : Int32).toUInt32 >>> ((2 : Int32).toUInt32 &&& Int32.toUInt32 31)).toInt32) &&& 858993459)) + (((((x - ((((x : Int32).toUInt32 >>> ((1 : Int32).toUInt32 &&& Int32.toUInt32 31)).toInt32) &&& 1431655765)) &&& 858993459) + ((((x - ((((x : Int32).toUInt32 >>> ((1 : Int32).toUInt32 &&& Int32.toUInt32 31)).toInt32) &&& 1431655765) : Int32).toUInt32 >>> ((2 : Int32).toUInt32 &&& Int32.toUInt32 31)).toInt32) &&& 858993459) : Int32).toUInt32 >>> ((4 : Int32).toUInt32 &&& Int32.toUInt32 31)).toInt32)) &&& 252645135) + (((((((x - ((((x : Int32).toUInt32 >>> ((1 : Int32).toUInt32 &&& Int32.toUInt32 31)).toInt32) &&& 1431655765)) &&& 858993459) + ((((x - ((((x : Int32).toUInt32 >>> ((1 : Int32).toUInt32 &&& Int32.toUInt32 31)).toInt32) &&& 1431655765) : Int32).toUInt32 >>> ((2 : Int32).toUInt32 &&& Int32.toUInt32 31)).toInt32) &&& 858993459)) + (((((x - ((((x : Int32).toUInt32 >>> ((1 : Int32).toUInt32 &&& Int32.toUInt32 31)).toInt32) &&& 1431655765)) &&& 858993459) + ((((x - ((((x : Int32).toUInt32 >>> ((1 : Int32).toUInt32 &&& Int32.toUInt32 31)).toInt32) &&& 1431655765) : Int32).toUInt32 >>> ((2 : Int32).toUInt32 &&& Int32.toUInt32 31)).toInt32) &&& 858993459) : Int32).toUInt32 >>> ((4 : Int32).toUInt32 &&& Int32.toUInt32 31)).toInt32)) &&& 252645135 : Int32).toUInt32 >>> ((8 : Int32).toUInt32 &&& Int32.toUInt32 31)).toInt32) : Int32).toUInt32 >>> ((16 : Int32).toUInt32 &&& Int32.toUInt32 31)).toInt32)) (q := 47) rfl rfl rfl rfl rfl ?_
  refine ar_istore_n (j := 0) (ls' := [some (.int (((((((x - ((((x : Int32).toUInt32 >>> ((1 : Int32).toUInt32 &&& Int32.toUInt32 31)).toInt32) &&& 1431655765)) &&& 858993459) + ((((x - ((((x : Int32).toUInt32 >>> ((1 : Int32).toUInt32 &&& Int32.toUInt32 31)).toInt32) &&& 1431655765) : Int32).toUInt32 >>> ((2 : Int32).toUInt32 &&& Int32.toUInt32 31)).toInt32) &&& 858993459)) + (((((x - ((((x : Int32).toUInt32 >>> ((1 : Int32).toUInt32 &&& Int32.toUInt32 31)).toInt32) &&& 1431655765)) &&& 858993459) + ((((x - ((((x : Int32).toUInt32 >>> ((1 : Int32).toUInt32 &&& Int32.toUInt32 31)).toInt32) &&& 1431655765) : Int32).toUInt32 >>> ((2 : Int32).toUInt32 &&& Int32.toUInt32 31)).toInt32) &&& 858993459) : Int32).toUInt32 >>> ((4 : Int32).toUInt32 &&& Int32.toUInt32 31)).toInt32)) &&& 252645135) + (((((((x - ((((x : Int32).toUInt32 >>> ((1 : Int32).toUInt32 &&& Int32.toUInt32 31)).toInt32) &&& 1431655765)) &&& 858993459) + ((((x - ((((x : Int32).toUInt32 >>> ((1 : Int32).toUInt32 &&& Int32.toUInt32 31)).toInt32) &&& 1431655765) : Int32).toUInt32 >>> ((2 : Int32).toUInt32 &&& Int32.toUInt32 31)).toInt32) &&& 858993459)) + (((((x - ((((x : Int32).toUInt32 >>> ((1 : Int32).toUInt32 &&& Int32.toUInt32 31)).toInt32) &&& 1431655765)) &&& 858993459) + ((((x - ((((x : Int32).toUInt32 >>> ((1 : Int32).toUInt32 &&& Int32.toUInt32 31)).toInt32) &&& 1431655765) : Int32).toUInt32 >>> ((2 : Int32).toUInt32 &&& Int32.toUInt32 31)).toInt32) &&& 858993459) : Int32).toUInt32 >>> ((4 : Int32).toUInt32 &&& Int32.toUInt32 31)).toInt32)) &&& 252645135 : Int32).toUInt32 >>> ((8 : Int32).toUInt32 &&& Int32.toUInt32 31)).toInt32)) + ((((((((x - ((((x : Int32).toUInt32 >>> ((1 : Int32).toUInt32 &&& Int32.toUInt32 31)).toInt32) &&& 1431655765)) &&& 858993459) + ((((x - ((((x : Int32).toUInt32 >>> ((1 : Int32).toUInt32 &&& Int32.toUInt32 31)).toInt32) &&& 1431655765) : Int32).toUInt32 >>> ((2 : Int32).toUInt32 &&& Int32.toUInt32 31)).toInt32) &&& 858993459)) + (((((x - ((((x : Int32).toUInt32 >>> ((1 : Int32).toUInt32 &&& Int32.toUInt32 31)).toInt32) &&& 1431655765)) &&& 858993459) + ((((x - ((((x : Int32).toUInt32 >>> ((1 : Int32).toUInt32 &&& Int32.toUInt32 31)).toInt32) &&& 1431655765) : Int32).toUInt32 >>> ((2 : Int32).toUInt32 &&& Int32.toUInt32 31)).toInt32) &&& 858993459) : Int32).toUInt32 >>> ((4 : Int32).toUInt32 &&& Int32.toUInt32 31)).toInt32)) &&& 252645135) + (((((((x - ((((x : Int32).toUInt32 >>> ((1 : Int32).toUInt32 &&& Int32.toUInt32 31)).toInt32) &&& 1431655765)) &&& 858993459) + ((((x - ((((x : Int32).toUInt32 >>> ((1 : Int32).toUInt32 &&& Int32.toUInt32 31)).toInt32) &&& 1431655765) : Int32).toUInt32 >>> ((2 : Int32).toUInt32 &&& Int32.toUInt32 31)).toInt32) &&& 858993459)) + (((((x - ((((x : Int32).toUInt32 >>> ((1 : Int32).toUInt32 &&& Int32.toUInt32 31)).toInt32) &&& 1431655765)) &&& 858993459) + ((((x - ((((x : Int32).toUInt32 >>> ((1 : Int32).toUInt32 &&& Int32.toUInt32 31)).toInt32) &&& 1431655765) : Int32).toUInt32 >>> ((2 : Int32).toUInt32 &&& Int32.toUInt32 31)).toInt32) &&& 858993459) : Int32).toUInt32 >>> ((4 : Int32).toUInt32 &&& Int32.toUInt32 31)).toInt32)) &&& 252645135 : Int32).toUInt32 >>> ((8 : Int32).toUInt32 &&& Int32.toUInt32 31)).toInt32) : Int32).toUInt32 >>> ((16 : Int32).toUInt32 &&& Int32.toUInt32 31)).toInt32)))]) (q := 48) rfl rfl rfl rfl rfl ?_
  refine ar_iload_n (j := 0) (q := 49) rfl rfl rfl rfl ?_
  refine ar_bipush (v := 63) (q := 51) rfl rfl rfl ?_
  refine ar_ib (i := .iand) (z := (((((((x - ((((x : Int32).toUInt32 >>> ((1 : Int32).toUInt32 &&& Int32.toUInt32 31)).toInt32) &&& 1431655765)) &&& 858993459) + ((((x - ((((x : Int32).toUInt32 >>> ((1 : Int32).toUInt32 &&& Int32.toUInt32 31)).toInt32) &&& 1431655765) : Int32).toUInt32 >>> ((2 : Int32).toUInt32 &&& Int32.toUInt32 31)).toInt32) &&& 858993459)) + (((((x - ((((x : Int32).toUInt32 >>> ((1 : Int32).toUInt32 &&& Int32.toUInt32 31)).toInt32) &&& 1431655765)) &&& 858993459) + ((((x - ((((x : Int32).toUInt32 >>> ((1 : Int32).toUInt32 &&& Int32.toUInt32 31)).toInt32) &&& 1431655765) : Int32).toUInt32 >>> ((2 : Int32).toUInt32 &&& Int32.toUInt32 31)).toInt32) &&& 858993459) : Int32).toUInt32 >>> ((4 : Int32).toUInt32 &&& Int32.toUInt32 31)).toInt32)) &&& 252645135) + (((((((x - ((((x : Int32).toUInt32 >>> ((1 : Int32).toUInt32 &&& Int32.toUInt32 31)).toInt32) &&& 1431655765)) &&& 858993459) + ((((x - ((((x : Int32).toUInt32 >>> ((1 : Int32).toUInt32 &&& Int32.toUInt32 31)).toInt32) &&& 1431655765) : Int32).toUInt32 >>> ((2 : Int32).toUInt32 &&& Int32.toUInt32 31)).toInt32) &&& 858993459)) + (((((x - ((((x : Int32).toUInt32 >>> ((1 : Int32).toUInt32 &&& Int32.toUInt32 31)).toInt32) &&& 1431655765)) &&& 858993459) + ((((x - ((((x : Int32).toUInt32 >>> ((1 : Int32).toUInt32 &&& Int32.toUInt32 31)).toInt32) &&& 1431655765) : Int32).toUInt32 >>> ((2 : Int32).toUInt32 &&& Int32.toUInt32 31)).toInt32) &&& 858993459) : Int32).toUInt32 >>> ((4 : Int32).toUInt32 &&& Int32.toUInt32 31)).toInt32)) &&& 252645135 : Int32).toUInt32 >>> ((8 : Int32).toUInt32 &&& Int32.toUInt32 31)).toInt32)) + ((((((((x - ((((x : Int32).toUInt32 >>> ((1 : Int32).toUInt32 &&& Int32.toUInt32 31)).toInt32) &&& 1431655765)) &&& 858993459) + ((((x - ((((x : Int32).toUInt32 >>> ((1 : Int32).toUInt32 &&& Int32.toUInt32 31)).toInt32) &&& 1431655765) : Int32).toUInt32 >>> ((2 : Int32).toUInt32 &&& Int32.toUInt32 31)).toInt32) &&& 858993459)) + (((((x - ((((x : Int32).toUInt32 >>> ((1 : Int32).toUInt32 &&& Int32.toUInt32 31)).toInt32) &&& 1431655765)) &&& 858993459) + ((((x - ((((x : Int32).toUInt32 >>> ((1 : Int32).toUInt32 &&& Int32.toUInt32 31)).toInt32) &&& 1431655765) : Int32).toUInt32 >>> ((2 : Int32).toUInt32 &&& Int32.toUInt32 31)).toInt32) &&& 858993459) : Int32).toUInt32 >>> ((4 : Int32).toUInt32 &&& Int32.toUInt32 31)).toInt32)) &&& 252645135) + (((((((x - ((((x : Int32).toUInt32 >>> ((1 : Int32).toUInt32 &&& Int32.toUInt32 31)).toInt32) &&& 1431655765)) &&& 858993459) + ((((x - ((((x : Int32).toUInt32 >>> ((1 : Int32).toUInt32 &&& Int32.toUInt32 31)).toInt32) &&& 1431655765) : Int32).toUInt32 >>> ((2 : Int32).toUInt32 &&& Int32.toUInt32 31)).toInt32) &&& 858993459)) + (((((x - ((((x : Int32).toUInt32 >>> ((1 : Int32).toUInt32 &&& Int32.toUInt32 31)).toInt32) &&& 1431655765)) &&& 858993459) + ((((x - ((((x : Int32).toUInt32 >>> ((1 : Int32).toUInt32 &&& Int32.toUInt32 31)).toInt32) &&& 1431655765) : Int32).toUInt32 >>> ((2 : Int32).toUInt32 &&& Int32.toUInt32 31)).toInt32) &&& 858993459) : Int32).toUInt32 >>> ((4 : Int32).toUInt32 &&& Int32.toUInt32 31)).toInt32)) &&& 252645135 : Int32).toUInt32 >>> ((8 : Int32).toUInt32 &&& Int32.toUInt32 31)).toInt32) : Int32).toUInt32 >>> ((16 : Int32).toUInt32 &&& Int32.toUInt32 31)).toInt32)) &&& 63) (q := 52) rfl rfl rfl rfl rfl ?_
  exact ar_iret rfl rfl h
theorem r_Int_compare_0 {d : Nat} {R : am_R} {I : Nat → Nat → Int32} {L : Nat → Nat → Int64} {x : Int32} {y : Int32} (h : ((x < y → (R (some (.int (-1 : Int32))) (am_mk I L, 0, 0))) ∧ (¬ x < y → (((x = y → (R (some (.int 0)) (am_mk I L, 0, 0))) ∧ (¬ x = y → (R (some (.int 1)) (am_mk I L, 0, 0)))))))) : am_Run am_X0 (am_meth d) 249 R 0 [some (.int x), some (.int y)] [] (am_mk I L, 0, 0) := by
  refine ar_iload_n (j := 0) (q := 1) rfl rfl rfl rfl ?_
  refine ar_iload_n (j := 1) (q := 2) rfl rfl rfl rfl ?_
  obtain ⟨hA, hB⟩ := h
  refine ar_br am_d_ge (t := 9) (q := 5) rfl rfl rfl (fun c_1 => ?_) (fun c_1 => ?_)
  · have h := hB c_1
    clear hA hB
    refine ar_iload_n (j := 0) (q := 10) rfl rfl rfl rfl ?_
    refine ar_iload_n (j := 1) (q := 11) rfl rfl rfl rfl ?_
    obtain ⟨hA, hB⟩ := h
    refine ar_br am_c_ne (t := 18) (q := 14) rfl rfl rfl (fun c_2 => ?_) (fun c_2 => ?_)
    · have h := hB c_2
      clear hA hB
      refine ar_iconst (v := 1) (q := 19) rfl rfl rfl ?_
      exact ar_iret rfl rfl h
    · have c_2 := Classical.not_not.mp c_2
      have h := hA c_2
      clear hA hB
      refine ar_iconst (v := 0) (q := 15) rfl rfl rfl ?_
      refine ar_goto (t := 19) rfl rfl ?_
      exact ar_iret rfl rfl h
  · have c_1 := Classical.not_not.mp c_1
    have h := hA c_1
    clear hA hB
    refine ar_iconst (v := (-1 : Int32)) (q := 6) rfl rfl rfl ?_
    refine ar_goto (t := 19) rfl rfl ?_
    exact ar_iret rfl rfl h
theorem r_Rules_setLetters_0 {d : Nat} (hd : 1 ≤ d) {R : am_R} {I : Nat → Nat → Int32} {L : Nat → Nat → Int64} {k : Nat} {s : Nat} (h : s < 60 ∧ (am_meth d 76 [.ref 74, .int (I 66 0)] (am_mk I L, 0, 0) (am_rv (fun I_2 L_3 => k < 20 ∧ (∀ I_5 : Nat → Nat → Int32, I_5 = va_up I_2 100 (upd (I_2 100) 0 (I_2 76 k)) → (∀ I_7 : Nat → Nat → Int32, I_7 = va_up I_5 100 (upd (I_5 100) 1 (I_5 77 k)) → (∀ I_9 : Nat → Nat → Int32, I_9 = va_up I_7 100 (upd (I_7 100) 2 (I_7 19 k)) → (∃ j_11 : Nat, j_11 < 20 ∧ I 67 s = nI j_11 ∧ (am_meth d 248 [.int (I_9 44 j_11)] (am_mk I_9 L_3, 0, 0) (am_ri (fun z_14 I_15 L_16 => ∀ I_17 : Nat → Nat → Int32, I_17 = va_up I_15 100 (upd (I_15 100) 3 z_14) → ((s < 60) ∧ (∀ I_20 : Nat → Nat → Int32, I_20 = va_up I_17 100 (upd (I_17 100) 4 (I_17 69 s - I_17 68 s + 1)) → ((s < 60) ∧ ((am_ix I_20 67 s 20) ∧ ((am_ix I_20 43 (am_n I_20 67 s) 10) ∧ (∀ I_25 : Nat → Nat → Int32, I_25 = va_up I_20 100 (upd (I_20 100) 5 (I_20 3 (am_n I_20 43 (am_n I_20 67 s)))) → (∀ I_27 : Nat → Nat → Int32, I_27 = va_up I_25 100 (upd (I_25 100) 6 (I 67 s)) → (∀ I_29 : Nat → Nat → Int32, I_29 = va_up I_27 100 (upd (I_27 100) 7 (nI k)) → (∀ I_31 : Nat → Nat → Int32, I_31 = va_up I_29 100 (upd (I_29 100) 8 ((I_29 68 s) - (I_29 66 0))) → (am_meth d 109 [.ref 99, .int (nI k)] (am_mk I_31 L_16, 0, 0) (am_ri (fun z_33 I_34 L_35 => ((z_33 = 0 → (∀ I_37 : Nat → Nat → Int32, I_37 = va_up I_34 100 (upd (I_34 100) 9 0) → (R none (am_mk I_37 L_35, 0, 0)))) ∧ (¬ z_33 = 0 → (∀ I_39 : Nat → Nat → Int32, I_39 = va_up I_34 100 (upd (I_34 100) 9 1) → (R none (am_mk I_39 L_35, 0, 0)))))))))))))))))))))))))))) : am_Run am_X0 (am_meth d) 108 R 0 [some (.ref 99), some (.int (nI k)), some (.int (nI s)), none] [] (am_mk I L, 0, 0) := by
  refine ar_aload_n (j := 0) (q := 1) rfl rfl rfl rfl ?_
  refine ar_getf (v := .ref 66) (q := 4) rfl rfl mk_99 rfl rfl ?_
  refine ar_getf (v := .ref 67) (q := 7) rfl rfl mk_66 rfl rfl ?_
  refine ar_iload_n (j := 2) (q := 8) rfl rfl rfl rfl ?_
  obtain ⟨hx_1, h⟩ := h
  refine ar_iald (v := I 67 s) (q := 9) rfl mk_67 (am_inE rfl hx_1 (by decide)) (am_clE rfl hx_1 (by decide)) rfl ?_
  refine ar_istore_n (j := 3) (ls' := [some (.ref 99), some (.int (nI k)), some (.int (nI s)), some (.int (I 67 s))]) (q := 10) rfl rfl rfl rfl rfl ?_
  refine ar_aload_n (j := 0) (q := 11) rfl rfl rfl rfl ?_
  refine ar_getf (v := .ref 74) (q := 14) rfl rfl mk_99 rfl rfl ?_
  refine ar_aload_n (j := 0) (q := 15) rfl rfl rfl rfl ?_
  refine ar_getf (v := .ref 66) (q := 18) rfl rfl mk_99 rfl rfl ?_
  refine ar_getf (v := .int (I 66 0)) (q := 21) rfl rfl mk_66 rfl rfl ?_
  refine ar_invv (as := [.int (I 66 0)]) (rest := []) (b2 := (0, 0)) (b3 := (0, 0)) (q := 24) rfl rfl rfl rfl mk_74 rfl rfl rfl rfl rfl ?_
  refine am_meth_mono d _ _ _ _ _ (fun v9 m9 h9 => ?_) h
  obtain ⟨I_2, L_3, rfl, rfl, h⟩ := h9
  show am_Run am_X0 (am_meth d) 108 R 24 [some (.ref 99), some (.int (nI k)), some (.int (nI s)), some (.int (I 67 s))] [] (am_mk I_2 L_3, 0, 0)
  refine ar_aload_n (j := 0) (q := 25) rfl rfl rfl rfl ?_
  refine ar_getf (v := .ref 100) (q := 28) rfl rfl mk_99 rfl rfl ?_
  refine ar_iconst (v := 0) (q := 29) rfl rfl rfl ?_
  refine ar_aload_n (j := 0) (q := 30) rfl rfl rfl rfl ?_
  refine ar_getf (v := .ref 74) (q := 33) rfl rfl mk_99 rfl rfl ?_
  refine ar_getf (v := .ref 76) (q := 36) rfl rfl mk_74 rfl rfl ?_
  refine ar_iload_n (j := 1) (q := 37) rfl rfl rfl rfl ?_
  obtain ⟨hx_4, h⟩ := h
  refine ar_iald (v := I_2 76 k) (q := 38) rfl mk_76 (am_inE rfl hx_4 (by decide)) (am_clE rfl hx_4 (by decide)) rfl ?_
  obtain ⟨I_5, hI_6⟩ : ∃ z : Nat → Nat → Int32, z = va_up I_2 100 (upd (I_2 100) 0 (I_2 76 k)) := ⟨_, rfl⟩
  have h := h I_5 hI_6
  refine ar_iast (hp2 := am_mk I_5 L_3) (q := 39) rfl mk_100 (am_inE rfl (by decide) (by decide)) (by rw [hI_6]; exact mk_s100) rfl ?_
  refine ar_aload_n (j := 0) (q := 40) rfl rfl rfl rfl ?_
  refine ar_getf (v := .ref 100) (q := 43) rfl rfl mk_99 rfl rfl ?_
  refine ar_iconst (v := 1) (q := 44) rfl rfl rfl ?_
  refine ar_aload_n (j := 0) (q := 45) rfl rfl rfl rfl ?_
  refine ar_getf (v := .ref 74) (q := 48) rfl rfl mk_99 rfl rfl ?_
  refine ar_getf (v := .ref 77) (q := 51) rfl rfl mk_74 rfl rfl ?_
  refine ar_iload_n (j := 1) (q := 52) rfl rfl rfl rfl ?_
  refine ar_iald (v := I_5 77 k) (q := 53) rfl mk_77 (am_inE rfl hx_4 (by decide)) (am_clE rfl hx_4 (by decide)) rfl ?_
  obtain ⟨I_7, hI_8⟩ : ∃ z : Nat → Nat → Int32, z = va_up I_5 100 (upd (I_5 100) 1 (I_5 77 k)) := ⟨_, rfl⟩
  have h := h I_7 hI_8
  refine ar_iast (hp2 := am_mk I_7 L_3) (q := 54) rfl mk_100 (am_inE rfl (by decide) (by decide)) (by rw [hI_8]; exact mk_s100) rfl ?_
  refine ar_aload_n (j := 0) (q := 55) rfl rfl rfl rfl ?_
  refine ar_getf (v := .ref 100) (q := 58) rfl rfl mk_99 rfl rfl ?_
  refine ar_iconst (v := 2) (q := 59) rfl rfl rfl ?_
  refine ar_aload_n (j := 0) (q := 60) rfl rfl rfl rfl ?_
  refine ar_getf (v := .ref 16) (q := 63) rfl rfl mk_99 rfl rfl ?_
  refine ar_getf (v := .ref 19) (q := 66) rfl rfl mk_16 rfl rfl ?_
  refine ar_iload_n (j := 1) (q := 67) rfl rfl rfl rfl ?_
  refine ar_iald (v := I_7 19 k) (q := 68) rfl mk_19 (am_inE rfl hx_4 (by decide)) (am_clE rfl hx_4 (by decide)) rfl ?_
  obtain ⟨I_9, hI_10⟩ : ∃ z : Nat → Nat → Int32, z = va_up I_7 100 (upd (I_7 100) 2 (I_7 19 k)) := ⟨_, rfl⟩
  have h := h I_9 hI_10
  refine ar_iast (hp2 := am_mk I_9 L_3) (q := 69) rfl mk_100 (am_inE rfl (by decide) (by decide)) (by rw [hI_10]; exact mk_s100) rfl ?_
  refine ar_aload_n (j := 0) (q := 70) rfl rfl rfl rfl ?_
  refine ar_getf (v := .ref 100) (q := 73) rfl rfl mk_99 rfl rfl ?_
  refine ar_iconst (v := 3) (q := 74) rfl rfl rfl ?_
  refine ar_aload_n (j := 0) (q := 75) rfl rfl rfl rfl ?_
  refine ar_getf (v := .ref 42) (q := 78) rfl rfl mk_99 rfl rfl ?_
  refine ar_getf (v := .ref 44) (q := 81) rfl rfl mk_42 rfl rfl ?_
  refine ar_iload_n (j := 3) (q := 82) rfl rfl rfl rfl ?_
  obtain ⟨j_11, hx_12, hi_13, h⟩ := h
  refine ar_iald (v := I_9 44 j_11) (q := 83) rfl mk_44 (am_inE hi_13 hx_12 (by decide)) (am_clE hi_13 hx_12 (by decide)) rfl ?_
  refine ar_invs (as := [.int (I_9 44 j_11)]) (rest := [.int 3, .ref 100]) (b2 := (0, 0)) (b3 := (0, 0)) (q := 86) rfl rfl rfl rfl rfl rfl rfl rfl rfl ?_
  refine am_meth_mono d _ _ _ _ _ (fun v9 m9 h9 => ?_) h
  obtain ⟨z_14, I_15, L_16, rfl, rfl, h⟩ := h9
  show am_Run am_X0 (am_meth d) 108 R 86 [some (.ref 99), some (.int (nI k)), some (.int (nI s)), some (.int (I 67 s))] [.int z_14, .int 3, .ref 100] (am_mk I_15 L_16, 0, 0)
  obtain ⟨I_17, hI_18⟩ : ∃ z : Nat → Nat → Int32, z = va_up I_15 100 (upd (I_15 100) 3 z_14) := ⟨_, rfl⟩
  have h := h I_17 hI_18
  refine ar_iast (hp2 := am_mk I_17 L_16) (q := 87) rfl mk_100 (am_inE rfl (by decide) (by decide)) (by rw [hI_18]; exact mk_s100) rfl ?_
  refine ar_aload_n (j := 0) (q := 88) rfl rfl rfl rfl ?_
  refine ar_getf (v := .ref 100) (q := 91) rfl rfl mk_99 rfl rfl ?_
  refine ar_iconst (v := 4) (q := 92) rfl rfl rfl ?_
  refine ar_aload_n (j := 0) (q := 93) rfl rfl rfl rfl ?_
  refine ar_getf (v := .ref 66) (q := 96) rfl rfl mk_99 rfl rfl ?_
  refine ar_iload_n (j := 2) (q := 97) rfl rfl rfl rfl ?_
  refine ar_invv (as := [.int (nI s)]) (rest := [.int 4, .ref 100]) (b2 := (0, 0)) (b3 := (0, 0)) (q := 100) rfl rfl rfl rfl mk_66 rfl rfl rfl rfl rfl ?_
  obtain ⟨hp_19, h⟩ := h
  refine ok_St_lengthOf (by omega) rfl hp_19 ?_
  show am_Run am_X0 (am_meth d) 108 R 100 [some (.ref 99), some (.int (nI k)), some (.int (nI s)), some (.int (I 67 s))] [.int (I_17 69 s - I_17 68 s + 1), .int 4, .ref 100] (am_mk I_17 L_16, 0, 0)
  obtain ⟨I_20, hI_21⟩ : ∃ z : Nat → Nat → Int32, z = va_up I_17 100 (upd (I_17 100) 4 (I_17 69 s - I_17 68 s + 1)) := ⟨_, rfl⟩
  have h := h I_20 hI_21
  refine ar_iast (hp2 := am_mk I_20 L_16) (q := 101) rfl mk_100 (am_inE rfl (by decide) (by decide)) (by rw [hI_21]; exact mk_s100) rfl ?_
  refine ar_aload_n (j := 0) (q := 102) rfl rfl rfl rfl ?_
  refine ar_getf (v := .ref 100) (q := 105) rfl rfl mk_99 rfl rfl ?_
  refine ar_iconst (v := 5) (q := 106) rfl rfl rfl ?_
  refine ar_aload_n (j := 0) (q := 107) rfl rfl rfl rfl ?_
  refine ar_iload_n (j := 2) (q := 108) rfl rfl rfl rfl ?_
  refine ar_invv (as := [.int (nI s)]) (rest := [.int 5, .ref 100]) (b2 := (0, 0)) (b3 := (0, 0)) (q := 111) rfl rfl rfl rfl mk_99 rfl rfl rfl rfl rfl ?_
  obtain ⟨hp_22, h⟩ := h
  obtain ⟨hp_23, h⟩ := h
  obtain ⟨hp_24, h⟩ := h
  refine ok_Ru_landOf (by omega) rfl hp_22 hp_23 hp_24 ?_
  show am_Run am_X0 (am_meth d) 108 R 111 [some (.ref 99), some (.int (nI k)), some (.int (nI s)), some (.int (I 67 s))] [.int (I_20 3 (am_n I_20 43 (am_n I_20 67 s))), .int 5, .ref 100] (am_mk I_20 L_16, 0, 0)
  obtain ⟨I_25, hI_26⟩ : ∃ z : Nat → Nat → Int32, z = va_up I_20 100 (upd (I_20 100) 5 (I_20 3 (am_n I_20 43 (am_n I_20 67 s)))) := ⟨_, rfl⟩
  have h := h I_25 hI_26
  refine ar_iast (hp2 := am_mk I_25 L_16) (q := 112) rfl mk_100 (am_inE rfl (by decide) (by decide)) (by rw [hI_26]; exact mk_s100) rfl ?_
  refine ar_aload_n (j := 0) (q := 113) rfl rfl rfl rfl ?_
  refine ar_getf (v := .ref 100) (q := 116) rfl rfl mk_99 rfl rfl ?_
  refine ar_bipush (v := 6) (q := 118) rfl rfl rfl ?_
  refine ar_iload_n (j := 3) (q := 119) rfl rfl rfl rfl ?_
  obtain ⟨I_27, hI_28⟩ : ∃ z : Nat → Nat → Int32, z = va_up I_25 100 (upd (I_25 100) 6 (I 67 s)) := ⟨_, rfl⟩
  have h := h I_27 hI_28
  refine ar_iast (hp2 := am_mk I_27 L_16) (q := 120) rfl mk_100 (am_inE rfl (by decide) (by decide)) (by rw [hI_28]; exact mk_s100) rfl ?_
  refine ar_aload_n (j := 0) (q := 121) rfl rfl rfl rfl ?_
  refine ar_getf (v := .ref 100) (q := 124) rfl rfl mk_99 rfl rfl ?_
  refine ar_bipush (v := 7) (q := 126) rfl rfl rfl ?_
  refine ar_iload_n (j := 1) (q := 127) rfl rfl rfl rfl ?_
  obtain ⟨I_29, hI_30⟩ : ∃ z : Nat → Nat → Int32, z = va_up I_27 100 (upd (I_27 100) 7 (nI k)) := ⟨_, rfl⟩
  have h := h I_29 hI_30
  refine ar_iast (hp2 := am_mk I_29 L_16) (q := 128) rfl mk_100 (am_inE rfl (by decide) (by decide)) (by rw [hI_30]; exact mk_s100) rfl ?_
  refine ar_aload_n (j := 0) (q := 129) rfl rfl rfl rfl ?_
  refine ar_getf (v := .ref 100) (q := 132) rfl rfl mk_99 rfl rfl ?_
  refine ar_bipush (v := 8) (q := 134) rfl rfl rfl ?_
  refine ar_aload_n (j := 0) (q := 135) rfl rfl rfl rfl ?_
  refine ar_getf (v := .ref 66) (q := 138) rfl rfl mk_99 rfl rfl ?_
  refine ar_getf (v := .ref 68) (q := 141) rfl rfl mk_66 rfl rfl ?_
  refine ar_iload_n (j := 2) (q := 142) rfl rfl rfl rfl ?_
  refine ar_iald (v := I_29 68 s) (q := 143) rfl mk_68 (am_inE rfl hx_1 (by decide)) (am_clE rfl hx_1 (by decide)) rfl ?_
  refine ar_aload_n (j := 0) (q := 144) rfl rfl rfl rfl ?_
  refine ar_getf (v := .ref 66) (q := 147) rfl rfl mk_99 rfl rfl ?_
  refine ar_getf (v := .int (I_29 66 0)) (q := 150) rfl rfl mk_66 rfl rfl ?_
  refine ar_ib (i := .isub) (z := (I_29 68 s) - (I_29 66 0)) (q := 151) rfl rfl rfl rfl rfl ?_
  obtain ⟨I_31, hI_32⟩ : ∃ z : Nat → Nat → Int32, z = va_up I_29 100 (upd (I_29 100) 8 ((I_29 68 s) - (I_29 66 0))) := ⟨_, rfl⟩
  have h := h I_31 hI_32
  refine ar_iast (hp2 := am_mk I_31 L_16) (q := 152) rfl mk_100 (am_inE rfl (by decide) (by decide)) (by rw [hI_32]; exact mk_s100) rfl ?_
  refine ar_aload_n (j := 0) (q := 153) rfl rfl rfl rfl ?_
  refine ar_getf (v := .ref 100) (q := 156) rfl rfl mk_99 rfl rfl ?_
  refine ar_bipush (v := 9) (q := 158) rfl rfl rfl ?_
  refine ar_aload_n (j := 0) (q := 159) rfl rfl rfl rfl ?_
  refine ar_iload_n (j := 1) (q := 160) rfl rfl rfl rfl ?_
  refine ar_invv (as := [.int (nI k)]) (rest := [.int 9, .ref 100]) (b2 := (0, 0)) (b3 := (0, 0)) (q := 163) rfl rfl rfl rfl mk_99 rfl rfl rfl rfl rfl ?_
  refine am_meth_mono d _ _ _ _ _ (fun v9 m9 h9 => ?_) h
  obtain ⟨z_33, I_34, L_35, rfl, rfl, h⟩ := h9
  show am_Run am_X0 (am_meth d) 108 R 163 [some (.ref 99), some (.int (nI k)), some (.int (nI s)), some (.int (I 67 s))] [.int z_33, .int 9, .ref 100] (am_mk I_34 L_35, 0, 0)
  obtain ⟨hA, hB⟩ := h
  refine ar_b0 am_c_eq (t := 170) (q := 166) rfl rfl rfl (fun c_36 => ?_) (fun c_36 => ?_)
  · have h := hA c_36
    clear hA hB
    refine ar_iconst (v := 0) (q := 171) rfl rfl rfl ?_
    obtain ⟨I_37, hI_38⟩ : ∃ z : Nat → Nat → Int32, z = va_up I_34 100 (upd (I_34 100) 9 0) := ⟨_, rfl⟩
    have h := h I_37 hI_38
    refine ar_iast (hp2 := am_mk I_37 L_35) (q := 172) rfl mk_100 (am_inE rfl (by decide) (by decide)) (by rw [hI_38]; exact mk_s100) rfl ?_
    exact ar_vret rfl rfl h
  · have h := hB c_36
    clear hA hB
    refine ar_iconst (v := 1) (q := 167) rfl rfl rfl ?_
    refine ar_goto (t := 171) rfl rfl ?_
    obtain ⟨I_39, hI_40⟩ : ∃ z : Nat → Nat → Int32, z = va_up I_34 100 (upd (I_34 100) 9 1) := ⟨_, rfl⟩
    have h := h I_39 hI_40
    refine ar_iast (hp2 := am_mk I_39 L_35) (q := 172) rfl mk_100 (am_inE rfl (by decide) (by decide)) (by rw [hI_40]; exact mk_s100) rfl ?_
    exact ar_vret rfl rfl h
theorem r_M_letter_0 {d : Nat} (hd : 1 ≤ d) {R : am_R} {I : Nat → Nat → Int32} {L : Nat → Nat → Int64} {b : Int32} {k : Nat} {s : Nat} (h : ((b = 116 → (am_meth d 184 [.ref 113, .int (nI k), .int (I 113 0)] (am_mk I L, 0, 0) (am_ri (fun z_2 I_3 L_4 => R (some (.long ((z_2 : Int32).toInt64))) (am_mk I_3 L_4, 0, 0))))) ∧ (¬ b = 116 → (((b = 110 → (am_meth d 187 [.ref 113, .int (nI k), .int (I 113 0)] (am_mk I L, 0, 0) (am_ri (fun z_6 I_7 L_8 => R (some (.long ((z_6 : Int32).toInt64))) (am_mk I_7 L_8, 0, 0))))) ∧ (¬ b = 110 → (((b = 112 → (k < 20 ∧ (R (some (.long ((I 119 k : Int32).toInt64))) (am_mk I L, 0, 0)))) ∧ (¬ b = 112 → (((b = 98 → (s < 60 ∧ (∃ j_13 : Nat, j_13 < 20 ∧ I 125 s = nI j_13 ∧ (am_meth d 188 [.ref 113, .int (I 123 j_13)] (am_mk I L, 0, 0) (am_ri (fun z_16 I_17 L_18 => R (some (.long ((z_16 : Int32).toInt64))) (am_mk I_17 L_18, 0, 0))))))) ∧ (¬ b = 98 → (((b = 100 → (s < 60 ∧ (R (some (.long ((((I 127 s) - (I 126 s)) + 1 : Int32).toInt64))) (am_mk I L, 0, 0)))) ∧ (¬ b = 100 → (((b = 108 → ((s < 60) ∧ ((am_ix I 125 s 20) ∧ (∃ j_24 : Nat, j_24 < 10 ∧ I 122 (am_n I 125 s) = nI j_24 ∧ (R (some (.long ((I 114 j_24 : Int32).toInt64))) (am_mk I L, 0, 0)))))) ∧ (¬ b = 108 → (((b = 104 → (s < 60 ∧ (R (some (.long ((I 125 s : Int32).toInt64))) (am_mk I L, 0, 0)))) ∧ (¬ b = 104 → (((b = 107 → (R (some (.long ((nI k : Int32).toInt64))) (am_mk I L, 0, 0))) ∧ (¬ b = 107 → (((b = 121 → (s < 60 ∧ (R (some (.long (((I 126 s) - (I 113 0) : Int32).toInt64))) (am_mk I L, 0, 0)))) ∧ (¬ b = 121 → (am_Run am_X0 (am_meth d) 183 R 157 [some (.ref 113), none, some (.int (nI k)), none, some (.int 0)] [] (am_mk I L, 0, 0))))))))))))))))))))))))))))) : am_Run am_X0 (am_meth d) 183 R 0 [some (.ref 113), some (.int b), some (.int (nI k)), some (.int (nI s)), none] [] (am_mk I L, 0, 0) := by
  refine ar_iload_n (j := 1) (q := 1) rfl rfl rfl rfl ?_
  refine ar_bipush (v := 116) (q := 3) rfl rfl rfl ?_
  obtain ⟨hA, hB⟩ := h
  refine ar_br am_c_ne (t := 17) (q := 6) rfl rfl rfl (fun c_1 => ?_) (fun c_1 => ?_)
  · have h := hB c_1
    clear hA hB
    refine ar_iload_n (j := 1) (q := 18) rfl rfl rfl rfl ?_
    refine ar_bipush (v := 110) (q := 20) rfl rfl rfl ?_
    obtain ⟨hA, hB⟩ := h
    refine ar_br am_c_ne (t := 34) (q := 23) rfl rfl rfl (fun c_5 => ?_) (fun c_5 => ?_)
    · have h := hB c_5
      clear hA hB
      refine ar_iload_n (j := 1) (q := 35) rfl rfl rfl rfl ?_
      refine ar_bipush (v := 112) (q := 37) rfl rfl rfl ?_
      obtain ⟨hA, hB⟩ := h
      refine ar_br am_c_ne (t := 48) (q := 40) rfl rfl rfl (fun c_9 => ?_) (fun c_9 => ?_)
      · have h := hB c_9
        clear hA hB
        refine ar_iload_n (j := 1) (q := 49) rfl rfl rfl rfl ?_
        refine ar_bipush (v := 98) (q := 51) rfl rfl rfl ?_
        obtain ⟨hA, hB⟩ := h
        refine ar_br am_c_ne (t := 71) (q := 54) rfl rfl rfl (fun c_11 => ?_) (fun c_11 => ?_)
        · have h := hB c_11
          clear hA hB
          refine ar_iload_n (j := 1) (q := 72) rfl rfl rfl rfl ?_
          refine ar_bipush (v := 100) (q := 74) rfl rfl rfl ?_
          obtain ⟨hA, hB⟩ := h
          refine ar_br am_c_ne (t := 94) (q := 77) rfl rfl rfl (fun c_19 => ?_) (fun c_19 => ?_)
          · have h := hB c_19
            clear hA hB
            refine ar_iload_n (j := 1) (q := 95) rfl rfl rfl rfl ?_
            refine ar_bipush (v := 108) (q := 97) rfl rfl rfl ?_
            obtain ⟨hA, hB⟩ := h
            refine ar_br am_c_ne (t := 112) (q := 100) rfl rfl rfl (fun c_21 => ?_) (fun c_21 => ?_)
            · have h := hB c_21
              clear hA hB
              refine ar_iload_n (j := 1) (q := 113) rfl rfl rfl rfl ?_
              refine ar_bipush (v := 104) (q := 115) rfl rfl rfl ?_
              obtain ⟨hA, hB⟩ := h
              refine ar_br am_c_ne (t := 126) (q := 118) rfl rfl rfl (fun c_27 => ?_) (fun c_27 => ?_)
              · have h := hB c_27
                clear hA hB
                refine ar_iload_n (j := 1) (q := 127) rfl rfl rfl rfl ?_
                refine ar_bipush (v := 107) (q := 129) rfl rfl rfl ?_
                obtain ⟨hA, hB⟩ := h
                refine ar_br am_c_ne (t := 135) (q := 132) rfl rfl rfl (fun c_29 => ?_) (fun c_29 => ?_)
                · have h := hB c_29
                  clear hA hB
                  refine ar_iload_n (j := 1) (q := 136) rfl rfl rfl rfl ?_
                  refine ar_bipush (v := 121) (q := 138) rfl rfl rfl ?_
                  obtain ⟨hA, hB⟩ := h
                  refine ar_br am_c_ne (t := 154) (q := 141) rfl rfl rfl (fun c_30 => ?_) (fun c_30 => ?_)
                  · have h := hB c_30
                    clear hA hB
                    refine ar_iconst (v := 0) (q := 155) rfl rfl rfl ?_
                    refine ar_istore (ls' := [some (.ref 113), some (.int b), some (.int (nI k)), some (.int (nI s)), some (.int 0)]) (q := 157) rfl rfl rfl rfl ?_
                    exact am_Run.weak (ls' := _) (by exact ⟨rfl, ⟨rfl, ⟨rfl, trivial⟩⟩⟩) h
                  · have c_30 := Classical.not_not.mp c_30
                    have h := hA c_30
                    clear hA hB
                    refine ar_aload_n (j := 0) (q := 142) rfl rfl rfl rfl ?_
                    refine ar_getf (v := .ref 126) (q := 145) rfl rfl mk_113 rfl rfl ?_
                    refine ar_iload_n (j := 3) (q := 146) rfl rfl rfl rfl ?_
                    obtain ⟨hx_31, h⟩ := h
                    refine ar_iald (v := I 126 s) (q := 147) rfl mk_126 (am_inE rfl hx_31 (by decide)) (am_clE rfl hx_31 (by decide)) rfl ?_
                    refine ar_aload_n (j := 0) (q := 148) rfl rfl rfl rfl ?_
                    refine ar_getf (v := .int (I 113 0)) (q := 151) rfl rfl mk_113 rfl rfl ?_
                    refine ar_ib (i := .isub) (z := (I 126 s) - (I 113 0)) (q := 152) rfl rfl rfl rfl rfl ?_
                    refine ar_st (i := .i2l) (n := 1) (st' := [.long (((I 126 s) - (I 113 0) : Int32).toInt64)]) (q := 153) rfl rfl rfl rfl ?_
                    exact ar_lret rfl rfl h
                · have c_29 := Classical.not_not.mp c_29
                  have h := hA c_29
                  clear hA hB
                  refine ar_iload_n (j := 2) (q := 133) rfl rfl rfl rfl ?_
                  refine ar_st (i := .i2l) (n := 1) (st' := [.long ((nI k : Int32).toInt64)]) (q := 134) rfl rfl rfl rfl ?_
                  exact ar_lret rfl rfl h
              · have c_27 := Classical.not_not.mp c_27
                have h := hA c_27
                clear hA hB
                refine ar_aload_n (j := 0) (q := 119) rfl rfl rfl rfl ?_
                refine ar_getf (v := .ref 125) (q := 122) rfl rfl mk_113 rfl rfl ?_
                refine ar_iload_n (j := 3) (q := 123) rfl rfl rfl rfl ?_
                obtain ⟨hx_28, h⟩ := h
                refine ar_iald (v := I 125 s) (q := 124) rfl mk_125 (am_inE rfl hx_28 (by decide)) (am_clE rfl hx_28 (by decide)) rfl ?_
                refine ar_st (i := .i2l) (n := 1) (st' := [.long ((I 125 s : Int32).toInt64)]) (q := 125) rfl rfl rfl rfl ?_
                exact ar_lret rfl rfl h
            · have c_21 := Classical.not_not.mp c_21
              have h := hA c_21
              clear hA hB
              refine ar_aload_n (j := 0) (q := 101) rfl rfl rfl rfl ?_
              refine ar_getf (v := .ref 114) (q := 104) rfl rfl mk_113 rfl rfl ?_
              refine ar_aload_n (j := 0) (q := 105) rfl rfl rfl rfl ?_
              refine ar_iload_n (j := 3) (q := 106) rfl rfl rfl rfl ?_
              refine ar_invv (as := [.int (nI s)]) (rest := [.ref 114]) (b2 := (0, 0)) (b3 := (0, 0)) (q := 109) rfl rfl rfl rfl mk_113 rfl rfl rfl rfl rfl ?_
              obtain ⟨hp_22, h⟩ := h
              obtain ⟨hp_23, h⟩ := h
              refine ok_M_townOf (by omega) rfl hp_22 hp_23 ?_
              show am_Run am_X0 (am_meth d) 183 R 109 [some (.ref 113), some (.int b), some (.int (nI k)), some (.int (nI s)), none] [.int (I 122 (am_n I 125 s)), .ref 114] (am_mk I L, 0, 0)
              obtain ⟨j_24, hx_25, hi_26, h⟩ := h
              refine ar_iald (v := I 114 j_24) (q := 110) rfl mk_114 (am_inE hi_26 hx_25 (by decide)) (am_clE hi_26 hx_25 (by decide)) rfl ?_
              refine ar_st (i := .i2l) (n := 1) (st' := [.long ((I 114 j_24 : Int32).toInt64)]) (q := 111) rfl rfl rfl rfl ?_
              exact ar_lret rfl rfl h
          · have c_19 := Classical.not_not.mp c_19
            have h := hA c_19
            clear hA hB
            refine ar_aload_n (j := 0) (q := 78) rfl rfl rfl rfl ?_
            refine ar_getf (v := .ref 127) (q := 81) rfl rfl mk_113 rfl rfl ?_
            refine ar_iload_n (j := 3) (q := 82) rfl rfl rfl rfl ?_
            obtain ⟨hx_20, h⟩ := h
            refine ar_iald (v := I 127 s) (q := 83) rfl mk_127 (am_inE rfl hx_20 (by decide)) (am_clE rfl hx_20 (by decide)) rfl ?_
            refine ar_aload_n (j := 0) (q := 84) rfl rfl rfl rfl ?_
            refine ar_getf (v := .ref 126) (q := 87) rfl rfl mk_113 rfl rfl ?_
            refine ar_iload_n (j := 3) (q := 88) rfl rfl rfl rfl ?_
            refine ar_iald (v := I 126 s) (q := 89) rfl mk_126 (am_inE rfl hx_20 (by decide)) (am_clE rfl hx_20 (by decide)) rfl ?_
            refine ar_ib (i := .isub) (z := (I 127 s) - (I 126 s)) (q := 90) rfl rfl rfl rfl rfl ?_
            refine ar_iconst (v := 1) (q := 91) rfl rfl rfl ?_
            refine ar_ib (i := .iadd) (z := ((I 127 s) - (I 126 s)) + 1) (q := 92) rfl rfl rfl rfl rfl ?_
            refine ar_st (i := .i2l) (n := 1) (st' := [.long ((((I 127 s) - (I 126 s)) + 1 : Int32).toInt64)]) (q := 93) rfl rfl rfl rfl ?_
            exact ar_lret rfl rfl h
        · have c_11 := Classical.not_not.mp c_11
          have h := hA c_11
          clear hA hB
          refine ar_aload_n (j := 0) (q := 55) rfl rfl rfl rfl ?_
          refine ar_aload_n (j := 0) (q := 56) rfl rfl rfl rfl ?_
          refine ar_getf (v := .ref 123) (q := 59) rfl rfl mk_113 rfl rfl ?_
          refine ar_aload_n (j := 0) (q := 60) rfl rfl rfl rfl ?_
          refine ar_getf (v := .ref 125) (q := 63) rfl rfl mk_113 rfl rfl ?_
          refine ar_iload_n (j := 3) (q := 64) rfl rfl rfl rfl ?_
          obtain ⟨hx_12, h⟩ := h
          refine ar_iald (v := I 125 s) (q := 65) rfl mk_125 (am_inE rfl hx_12 (by decide)) (am_clE rfl hx_12 (by decide)) rfl ?_
          obtain ⟨j_13, hx_14, hi_15, h⟩ := h
          refine ar_iald (v := I 123 j_13) (q := 66) rfl mk_123 (am_inE hi_15 hx_14 (by decide)) (am_clE hi_15 hx_14 (by decide)) rfl ?_
          refine ar_invv (as := [.int (I 123 j_13)]) (rest := []) (b2 := (0, 0)) (b3 := (0, 0)) (q := 69) rfl rfl rfl rfl mk_113 rfl rfl rfl rfl rfl ?_
          refine am_meth_mono d _ _ _ _ _ (fun v9 m9 h9 => ?_) h
          obtain ⟨z_16, I_17, L_18, rfl, rfl, h⟩ := h9
          show am_Run am_X0 (am_meth d) 183 R 69 [some (.ref 113), some (.int b), some (.int (nI k)), some (.int (nI s)), none] [.int z_16] (am_mk I_17 L_18, 0, 0)
          refine ar_st (i := .i2l) (n := 1) (st' := [.long ((z_16 : Int32).toInt64)]) (q := 70) rfl rfl rfl rfl ?_
          exact ar_lret rfl rfl h
      · have c_9 := Classical.not_not.mp c_9
        have h := hA c_9
        clear hA hB
        refine ar_aload_n (j := 0) (q := 41) rfl rfl rfl rfl ?_
        refine ar_getf (v := .ref 119) (q := 44) rfl rfl mk_113 rfl rfl ?_
        refine ar_iload_n (j := 2) (q := 45) rfl rfl rfl rfl ?_
        obtain ⟨hx_10, h⟩ := h
        refine ar_iald (v := I 119 k) (q := 46) rfl mk_119 (am_inE rfl hx_10 (by decide)) (am_clE rfl hx_10 (by decide)) rfl ?_
        refine ar_st (i := .i2l) (n := 1) (st' := [.long ((I 119 k : Int32).toInt64)]) (q := 47) rfl rfl rfl rfl ?_
        exact ar_lret rfl rfl h
    · have c_5 := Classical.not_not.mp c_5
      have h := hA c_5
      clear hA hB
      refine ar_aload_n (j := 0) (q := 24) rfl rfl rfl rfl ?_
      refine ar_iload_n (j := 2) (q := 25) rfl rfl rfl rfl ?_
      refine ar_aload_n (j := 0) (q := 26) rfl rfl rfl rfl ?_
      refine ar_getf (v := .int (I 113 0)) (q := 29) rfl rfl mk_113 rfl rfl ?_
      refine ar_invv (as := [.int (nI k), .int (I 113 0)]) (rest := []) (b2 := (0, 0)) (b3 := (0, 0)) (q := 32) rfl rfl rfl rfl mk_113 rfl rfl rfl rfl rfl ?_
      refine am_meth_mono d _ _ _ _ _ (fun v9 m9 h9 => ?_) h
      obtain ⟨z_6, I_7, L_8, rfl, rfl, h⟩ := h9
      show am_Run am_X0 (am_meth d) 183 R 32 [some (.ref 113), some (.int b), some (.int (nI k)), some (.int (nI s)), none] [.int z_6] (am_mk I_7 L_8, 0, 0)
      refine ar_st (i := .i2l) (n := 1) (st' := [.long ((z_6 : Int32).toInt64)]) (q := 33) rfl rfl rfl rfl ?_
      exact ar_lret rfl rfl h
  · have c_1 := Classical.not_not.mp c_1
    have h := hA c_1
    clear hA hB
    refine ar_aload_n (j := 0) (q := 7) rfl rfl rfl rfl ?_
    refine ar_iload_n (j := 2) (q := 8) rfl rfl rfl rfl ?_
    refine ar_aload_n (j := 0) (q := 9) rfl rfl rfl rfl ?_
    refine ar_getf (v := .int (I 113 0)) (q := 12) rfl rfl mk_113 rfl rfl ?_
    refine ar_invv (as := [.int (nI k), .int (I 113 0)]) (rest := []) (b2 := (0, 0)) (b3 := (0, 0)) (q := 15) rfl rfl rfl rfl mk_113 rfl rfl rfl rfl rfl ?_
    refine am_meth_mono d _ _ _ _ _ (fun v9 m9 h9 => ?_) h
    obtain ⟨z_2, I_3, L_4, rfl, rfl, h⟩ := h9
    show am_Run am_X0 (am_meth d) 183 R 15 [some (.ref 113), some (.int b), some (.int (nI k)), some (.int (nI s)), none] [.int z_2] (am_mk I_3 L_4, 0, 0)
    refine ar_st (i := .i2l) (n := 1) (st' := [.long ((z_2 : Int32).toInt64)]) (q := 16) rfl rfl rfl rfl ?_
    exact ar_lret rfl rfl h
theorem r_M_letter_157 {d : Nat} (hd : 1 ≤ d) {R : am_R} {I : Nat → Nat → Int32} {L : Nat → Nat → Int64} {k : Nat} {j : Nat} (h : (((nI j) < (I 113 4) → ((((nI j) = (nI k) → (am_Run am_X0 (am_meth d) 183 R 157 [some (.ref 113), none, some (.int (nI k)), none, some (.int (nI (j + 1)))] [] (am_mk I L, 0, 0))) ∧ (¬ (nI j) = (nI k) → ((j < 20) ∧ ((k < 20) ∧ (((s_alf (I 120) j k = true → (am_meth d 184 [.ref 113, .int (nI j), .int (I 113 0)] (am_mk I L, 0, 0) (am_ri (fun z_6 I_7 L_8 => ((z_6 < 0 → (R (some (.long (1 : Int64))) (am_mk I_7 L_8, 0, 0))) ∧ (¬ z_6 < 0 → (am_Run am_X0 (am_meth d) 183 R 157 [some (.ref 113), none, some (.int (nI k)), none, some (.int (nI (j + 1)))] [] (am_mk I_7 L_8, 0, 0)))))))) ∧ (¬ (s_alf (I 120) j k = true) → (am_Run am_X0 (am_meth d) 183 R 157 [some (.ref 113), none, some (.int (nI k)), none, some (.int (nI (j + 1)))] [] (am_mk I L, 0, 0))))))))))) ∧ (¬ (nI j) < (I 113 4) → (R (some (.long (0 : Int64))) (am_mk I L, 0, 0))))) : am_Run am_X0 (am_meth d) 183 R 157 [some (.ref 113), none, some (.int (nI k)), none, some (.int (nI j))] [] (am_mk I L, 0, 0) := by
  refine ar_iload (q := 159) rfl rfl rfl ?_
  refine ar_aload_n (j := 0) (q := 160) rfl rfl rfl rfl ?_
  refine ar_getf (v := .int (I 113 4)) (q := 163) rfl rfl mk_113 rfl rfl ?_
  obtain ⟨hA, hB⟩ := h
  refine ar_br am_d_ge (t := 203) (q := 166) rfl rfl rfl (fun c_1 => ?_) (fun c_1 => ?_)
  · have h := hB c_1
    clear hA hB
    refine ar_lconst (v := 0) (q := 204) rfl rfl rfl ?_
    exact ar_lret rfl rfl h
  · have c_1 := Classical.not_not.mp c_1
    have h := hA c_1
    clear hA hB
    refine ar_iload (q := 168) rfl rfl rfl ?_
    refine ar_iload_n (j := 2) (q := 169) rfl rfl rfl rfl ?_
    obtain ⟨hA, hB⟩ := h
    refine ar_br am_c_eq (t := 197) (q := 172) rfl rfl rfl (fun c_2 => ?_) (fun c_2 => ?_)
    · have h := hA c_2
      clear hA hB
      refine ar_iinc (v := nI (j + 1)) (ls' := [some (.ref 113), none, some (.int (nI k)), none, some (.int (nI (j + 1)))]) (q := 200) rfl rfl rfl (nI_1 _) rfl rfl ?_
      refine ar_goto (t := 157) rfl rfl ?_
      exact am_Run.weak (ls' := _) (by exact ⟨rfl, ⟨rfl, ⟨rfl, trivial⟩⟩⟩) h
    · have h := hB c_2
      clear hA hB
      refine ar_aload_n (j := 0) (q := 173) rfl rfl rfl rfl ?_
      refine ar_iload (q := 175) rfl rfl rfl ?_
      refine ar_iload_n (j := 2) (q := 176) rfl rfl rfl rfl ?_
      refine ar_invv (as := [.int (nI j), .int (nI k)]) (rest := []) (b2 := (0, 0)) (b3 := (0, 0)) (q := 179) rfl rfl rfl rfl mk_113 rfl rfl rfl rfl rfl ?_
      obtain ⟨hp_4, h⟩ := h
      obtain ⟨hp_5, h⟩ := h
      obtain ⟨hA, hB⟩ := h
      refine ok_M_alf (by omega) rfl rfl hp_4 hp_5 (fun c_3 => ?_) (fun c_3 => ?_)
      · have h := hA c_3
        clear hA hB
        show am_Run am_X0 (am_meth d) 183 R 179 [some (.ref 113), none, some (.int (nI k)), none, some (.int (nI j))] [.int 1] (am_mk I L, 0, 0)
        refine ar_b0 am_c_eq (t := 197) (q := 182) rfl rfl rfl (fun c9 => absurd c9 (by decide)) (fun _ => ?_)
        refine ar_aload_n (j := 0) (q := 183) rfl rfl rfl rfl ?_
        refine ar_iload (q := 185) rfl rfl rfl ?_
        refine ar_aload_n (j := 0) (q := 186) rfl rfl rfl rfl ?_
        refine ar_getf (v := .int (I 113 0)) (q := 189) rfl rfl mk_113 rfl rfl ?_
        refine ar_invv (as := [.int (nI j), .int (I 113 0)]) (rest := []) (b2 := (0, 0)) (b3 := (0, 0)) (q := 192) rfl rfl rfl rfl mk_113 rfl rfl rfl rfl rfl ?_
        refine am_meth_mono d _ _ _ _ _ (fun v9 m9 h9 => ?_) h
        obtain ⟨z_6, I_7, L_8, rfl, rfl, h⟩ := h9
        show am_Run am_X0 (am_meth d) 183 R 192 [some (.ref 113), none, some (.int (nI k)), none, some (.int (nI j))] [.int z_6] (am_mk I_7 L_8, 0, 0)
        obtain ⟨hA, hB⟩ := h
        refine ar_b0 am_d_ge (t := 197) (q := 195) rfl rfl rfl (fun c_9 => ?_) (fun c_9 => ?_)
        · have h := hB c_9
          clear hA hB
          refine ar_iinc (v := nI (j + 1)) (ls' := [some (.ref 113), none, some (.int (nI k)), none, some (.int (nI (j + 1)))]) (q := 200) rfl rfl rfl (nI_1 _) rfl rfl ?_
          refine ar_goto (t := 157) rfl rfl ?_
          exact am_Run.weak (ls' := _) (by exact ⟨rfl, ⟨rfl, ⟨rfl, trivial⟩⟩⟩) h
        · have c_9 := Classical.not_not.mp c_9
          have h := hA c_9
          clear hA hB
          refine ar_lconst (v := 1) (q := 196) rfl rfl rfl ?_
          exact ar_lret rfl rfl h
      · have h := hB c_3
        clear hA hB
        show am_Run am_X0 (am_meth d) 183 R 179 [some (.ref 113), none, some (.int (nI k)), none, some (.int (nI j))] [.int 0] (am_mk I L, 0, 0)
        refine ar_b0 am_c_eq (t := 197) (q := 182) rfl rfl rfl (fun _ => ?_) (fun c9 => absurd (by decide) c9)
        refine ar_iinc (v := nI (j + 1)) (ls' := [some (.ref 113), none, some (.int (nI k)), none, some (.int (nI (j + 1)))]) (q := 200) rfl rfl rfl (nI_1 _) rfl rfl ?_
        refine ar_goto (t := 157) rfl rfl ?_
        exact am_Run.weak (ls' := _) (by exact ⟨rfl, ⟨rfl, ⟨rfl, trivial⟩⟩⟩) h
def w_bc (x : Int32) : Int32 := (((((((x - ((((x : Int32).toUInt32 >>> ((1 : Int32).toUInt32 &&& Int32.toUInt32 31)).toInt32) &&& 1431655765)) &&& 858993459) + ((((x - ((((x : Int32).toUInt32 >>> ((1 : Int32).toUInt32 &&& Int32.toUInt32 31)).toInt32) &&& 1431655765) : Int32).toUInt32 >>> ((2 : Int32).toUInt32 &&& Int32.toUInt32 31)).toInt32) &&& 858993459)) + (((((x - ((((x : Int32).toUInt32 >>> ((1 : Int32).toUInt32 &&& Int32.toUInt32 31)).toInt32) &&& 1431655765)) &&& 858993459) + ((((x - ((((x : Int32).toUInt32 >>> ((1 : Int32).toUInt32 &&& Int32.toUInt32 31)).toInt32) &&& 1431655765) : Int32).toUInt32 >>> ((2 : Int32).toUInt32 &&& Int32.toUInt32 31)).toInt32) &&& 858993459) : Int32).toUInt32 >>> ((4 : Int32).toUInt32 &&& Int32.toUInt32 31)).toInt32)) &&& 252645135) + (((((((x - ((((x : Int32).toUInt32 >>> ((1 : Int32).toUInt32 &&& Int32.toUInt32 31)).toInt32) &&& 1431655765)) &&& 858993459) + ((((x - ((((x : Int32).toUInt32 >>> ((1 : Int32).toUInt32 &&& Int32.toUInt32 31)).toInt32) &&& 1431655765) : Int32).toUInt32 >>> ((2 : Int32).toUInt32 &&& Int32.toUInt32 31)).toInt32) &&& 858993459)) + (((((x - ((((x : Int32).toUInt32 >>> ((1 : Int32).toUInt32 &&& Int32.toUInt32 31)).toInt32) &&& 1431655765)) &&& 858993459) + ((((x - ((((x : Int32).toUInt32 >>> ((1 : Int32).toUInt32 &&& Int32.toUInt32 31)).toInt32) &&& 1431655765) : Int32).toUInt32 >>> ((2 : Int32).toUInt32 &&& Int32.toUInt32 31)).toInt32) &&& 858993459) : Int32).toUInt32 >>> ((4 : Int32).toUInt32 &&& Int32.toUInt32 31)).toInt32)) &&& 252645135 : Int32).toUInt32 >>> ((8 : Int32).toUInt32 &&& Int32.toUInt32 31)).toInt32)) + ((((((((x - ((((x : Int32).toUInt32 >>> ((1 : Int32).toUInt32 &&& Int32.toUInt32 31)).toInt32) &&& 1431655765)) &&& 858993459) + ((((x - ((((x : Int32).toUInt32 >>> ((1 : Int32).toUInt32 &&& Int32.toUInt32 31)).toInt32) &&& 1431655765) : Int32).toUInt32 >>> ((2 : Int32).toUInt32 &&& Int32.toUInt32 31)).toInt32) &&& 858993459)) + (((((x - ((((x : Int32).toUInt32 >>> ((1 : Int32).toUInt32 &&& Int32.toUInt32 31)).toInt32) &&& 1431655765)) &&& 858993459) + ((((x - ((((x : Int32).toUInt32 >>> ((1 : Int32).toUInt32 &&& Int32.toUInt32 31)).toInt32) &&& 1431655765) : Int32).toUInt32 >>> ((2 : Int32).toUInt32 &&& Int32.toUInt32 31)).toInt32) &&& 858993459) : Int32).toUInt32 >>> ((4 : Int32).toUInt32 &&& Int32.toUInt32 31)).toInt32)) &&& 252645135) + (((((((x - ((((x : Int32).toUInt32 >>> ((1 : Int32).toUInt32 &&& Int32.toUInt32 31)).toInt32) &&& 1431655765)) &&& 858993459) + ((((x - ((((x : Int32).toUInt32 >>> ((1 : Int32).toUInt32 &&& Int32.toUInt32 31)).toInt32) &&& 1431655765) : Int32).toUInt32 >>> ((2 : Int32).toUInt32 &&& Int32.toUInt32 31)).toInt32) &&& 858993459)) + (((((x - ((((x : Int32).toUInt32 >>> ((1 : Int32).toUInt32 &&& Int32.toUInt32 31)).toInt32) &&& 1431655765)) &&& 858993459) + ((((x - ((((x : Int32).toUInt32 >>> ((1 : Int32).toUInt32 &&& Int32.toUInt32 31)).toInt32) &&& 1431655765) : Int32).toUInt32 >>> ((2 : Int32).toUInt32 &&& Int32.toUInt32 31)).toInt32) &&& 858993459) : Int32).toUInt32 >>> ((4 : Int32).toUInt32 &&& Int32.toUInt32 31)).toInt32)) &&& 252645135 : Int32).toUInt32 >>> ((8 : Int32).toUInt32 &&& Int32.toUInt32 31)).toInt32) : Int32).toUInt32 >>> ((16 : Int32).toUInt32 &&& Int32.toUInt32 31)).toInt32)) &&& 63
