/-! A PLAIN MACHINE over plain cells: what the bytecode does to them, instruction by instruction, as a function; a reference is a cell's place. '.float 0' is the script, '.float 1' the static array of weights, '.float 2' the constant text, '.float 3' its bytes. -/
/-- a cell: ints (kind 0 int, 1 byte, 2 boolean), longs, references to cells, an object (its class, its fields) -/
abbrev am_C : Type := (Nat × Nat × (Nat → Int32)) ⊕ (Nat × (Nat → Int64)) ⊕ (Nat × (Nat → Option Nat)) ⊕ (Nat × List Value)
/-- the cells; how many cells and slots may still be made -/
abbrev am_M : Type := List am_C × Nat × Nat
abbrev am_L : Type := List (Option Value)
abbrev am_S : Type := Nat × am_L × List Value × am_M
abbrev am_K : Type := Nat → am_L → List Value → am_M → Prop
abbrev am_R : Type := Option Value → am_M → Prop
abbrev am_Q : Type := Nat × List Value × am_M × Nat × am_L × List Value × Nat × Nat
abbrev am_O : Type := Option (am_S ⊕ (Option Value × am_M) ⊕ am_Q)
/-- the script -/
abbrev am_X : Type := Option (Nat × (Nat → Int32))
def am_go (pc : Nat) (ls : am_L) (st : List Value) (mem : am_M) : am_O := some (.inl (pc, ls, st, mem))
def am_in (i : Int32) (n : Nat) : Bool := !(decide (i < 0)) && decide (i.toNatClampNeg < n)
def am_ib : Instr → Option (Int32 → Int32 → Option Int32)
  | .iadd => some fun x y => some (x + y)
  | .isub => some fun x y => some (x - y)
  | .imul => some fun x y => some (x * y)
  | .iand => some fun x y => some (x &&& y)
  | .ior => some fun x y => some (x ||| y)
  | .ixor => some fun x y => some (x ^^^ y)
  | .ishl => some fun x y => some (x <<< (y &&& 31))
  | .ishr => some fun x y => some (x >>> (y &&& 31))
  | .iushr => some fun x y => some (x.toUInt32 >>> (y.toUInt32 &&& Int32.toUInt32 31)).toInt32
  | .idiv => some fun x y => if y = 0 then none else some (x / y)
  | .irem => some fun x y => if y = 0 then none else some (x - x / y * y)
  | _ => none
def am_lb : Instr → Option (Int64 → Int64 → Option Int64)
  | .ladd => some fun x y => some (x + y)
  | .lsub => some fun x y => some (x - y)
  | .lmul => some fun x y => some (x * y)
  | .land => some fun x y => some (x &&& y)
  | .lor => some fun x y => some (x ||| y)
  | .ldiv => some fun x y => if y = 0 then none else some (x / y)
  | .lrem => some fun x y => if y = 0 then none else some (x - x / y * y)
  | _ => none
def am_cmp (c : Jvm.ClassFile.Cond) (x y : Int32) : Bool := match c with
  | .eq => decide (x = y)
  | .ne => decide (¬ x = y)
  | .lt => decide (x < y)
  | .ge => decide (y ≤ x)
  | .gt => decide (y < x)
  | .le => decide (x ≤ y)
def am_get (ls : am_L) (j : Nat) : Option Value := match ls[j]? with
  | some (some v) => some v
  | _ => none
/-- no long ends in place j -/
def am_pl (ls : am_L) (j : Nat) : Bool := match j with
  | 0 => true
  | j + 1 => match am_get ls j with
    | some (.long _) => false
    | _ => true
def am_jmp (pc : Nat) (off : Int) : Option Nat := if 0 ≤ (pc : Int) + off then some ((pc : Int) + off).toNat else none
def am_to (pc : Nat) (off : Int) (ls : am_L) (st : List Value) (mem : am_M) : am_O := match am_jmp pc off with
  | some t => am_go t ls st mem
  | none => none
def am_cat (st : List Value) : Nat := (st.map fun v => v.category).sum
/-- a value that a field of this type takes as it is -/
def am_fit (t : FieldType) (v : Value) : Bool := match t, v with
  | .int, .int _ => true
  | .object _, .ref _ => true
  | .object _, .null => true
  | .array _, .ref _ => true
  | .array _, .null => true
  | _, _ => false
def am_ild (pc : Nat) (ls : am_L) (st : List Value) (mem : am_M) (j : Nat) : am_O := match am_get ls j with
  | some (.int x) => am_go pc ls (.int x :: st) mem
  | _ => none
def am_lld (pc : Nat) (ls : am_L) (st : List Value) (mem : am_M) (j : Nat) : am_O := match am_get ls j with
  | some (.long x) => am_go pc ls (.long x :: st) mem
  | _ => none
def am_ald (pc : Nat) (ls : am_L) (st : List Value) (mem : am_M) (j : Nat) : am_O := match am_get ls j with
  | some (.ref x) => am_go pc ls (.ref x :: st) mem
  | some (.float x) => am_go pc ls (.float x :: st) mem
  | _ => none
def am_ist (pc : Nat) (ls : am_L) (st : List Value) (mem : am_M) (j : Nat) : am_O := match st with
  | .int x :: st => if (decide (j < ls.length) && am_pl ls j) = true then am_go pc (ls.set j (some (.int x))) st mem else none
  | _ => none
def am_lst (pc : Nat) (ls : am_L) (st : List Value) (mem : am_M) (j : Nat) : am_O := match st with
  | .long x :: st => if (decide (j + 1 < ls.length) && am_pl ls j) = true then am_go pc ((ls.set j (some (.long x))).set (j + 1) none) st mem else none
  | _ => none
def am_ast (pc : Nat) (ls : am_L) (st : List Value) (mem : am_M) (j : Nat) : am_O := match st with
  | .ref x :: st => if (decide (j < ls.length) && am_pl ls j) = true then am_go pc (ls.set j (some (.ref x))) st mem else none
  | _ => none
def am_iic (pc : Nat) (ls : am_L) (st : List Value) (mem : am_M) (j : Nat) (n : Int) : am_O := match am_get ls j with
  | some (.int x) => if (decide (j < ls.length) && am_pl ls j) = true then am_go pc (ls.set j (some (.int (x + Int32.ofInt n)))) st mem else none
  | _ => none
/-- the weights, the constant text's bytes -/
def am_w6 (j : Nat) : Int64 := ([4084101, 194481, 9261, 441, 21, 1] : List Int64).getD j 0
def am_tx (j : Nat) : Int32 := ([116, 110, 112, 98, 100, 108, 104, 107, 121, 122] : List Int32).getD j 0
def am_iald (X : am_X) (pc : Nat) (ls : am_L) (st : List Value) (mem : am_M) : am_O := match st with
  | .int i :: .ref a :: st => match mem.1[a]? with
    | some (.inl (0, n, f)) => if am_in i n = true then am_go pc ls (.int (f i.toNatClampNeg) :: st) mem else none
    | _ => none
  | .int i :: .float u :: st => match X with
    | some x => if u = 0 then (if am_in i x.1 = true then am_go pc ls (.int (x.2 i.toNatClampNeg) :: st) mem else none) else none
    | none => none
  | _ => none
def am_bald (pc : Nat) (ls : am_L) (st : List Value) (mem : am_M) : am_O := match st with
  | .int i :: .ref a :: st => match mem.1[a]? with
    | some (.inl (1, n, f)) => if am_in i n = true then am_go pc ls (.int (f i.toNatClampNeg) :: st) mem else none
    | some (.inl (2, n, f)) => if am_in i n = true then am_go pc ls (.int (f i.toNatClampNeg) :: st) mem else none
    | _ => none
  | .int i :: .float u :: st => if u = 3 then (if am_in i 10 = true then am_go pc ls (.int (am_tx i.toNatClampNeg) :: st) mem else none) else none
  | _ => none
def am_lald (pc : Nat) (ls : am_L) (st : List Value) (mem : am_M) : am_O := match st with
  | .int i :: .ref a :: st => match mem.1[a]? with
    | some (.inr (.inl (n, f))) => if am_in i n = true then am_go pc ls (.long (f i.toNatClampNeg) :: st) mem else none
    | _ => none
  | .int i :: .float u :: st => if u = 1 then (if am_in i 6 = true then am_go pc ls (.long (am_w6 i.toNatClampNeg) :: st) mem else none) else none
  | _ => none
def am_aald (pc : Nat) (ls : am_L) (st : List Value) (mem : am_M) : am_O := match st with
  | .int i :: .ref a :: st => match mem.1[a]? with
    | some (.inr (.inr (.inl (n, f)))) => if am_in i n = true then (match f i.toNatClampNeg with
      | some b => am_go pc ls (.ref b :: st) mem
      | none => none) else none
    | _ => none
  | _ => none
def am_iast (pc : Nat) (ls : am_L) (st : List Value) (mem : am_M) : am_O := match st with
  | .int x :: .int i :: .ref a :: st => match mem.1[a]? with
    | some (.inl (0, n, f)) => if am_in i n = true then am_go pc ls st (mem.1.set a (.inl (0, n, upd f i.toNatClampNeg x)), mem.2) else none
    | _ => none
  | _ => none
def am_bast (pc : Nat) (ls : am_L) (st : List Value) (mem : am_M) : am_O := match st with
  | .int x :: .int i :: .ref a :: st => match mem.1[a]? with
    | some (.inl (1, n, f)) => if am_in i n = true then am_go pc ls st (mem.1.set a (.inl (1, n, upd f i.toNatClampNeg (vp_nar .byte x))), mem.2) else none
    | some (.inl (2, n, f)) => if am_in i n = true then am_go pc ls st (mem.1.set a (.inl (2, n, upd f i.toNatClampNeg (vp_nar .boolean x))), mem.2) else none
    | _ => none
  | _ => none
def am_last (pc : Nat) (ls : am_L) (st : List Value) (mem : am_M) : am_O := match st with
  | .long x :: .int i :: .ref a :: st => match mem.1[a]? with
    | some (.inr (.inl (n, f))) => if am_in i n = true then am_go pc ls st (mem.1.set a (.inr (.inl (n, vp_updL f i.toNatClampNeg x))), mem.2) else none
    | _ => none
  | _ => none
def am_alen (X : am_X) (pc : Nat) (ls : am_L) (st : List Value) (mem : am_M) : am_O := match st with
  | .ref a :: st => match mem.1[a]? with
    | some (.inl (_, n, _)) => am_go pc ls (.int (Int32.ofNat n) :: st) mem
    | some (.inr (.inl (n, _))) => am_go pc ls (.int (Int32.ofNat n) :: st) mem
    | some (.inr (.inr (.inl (n, _)))) => am_go pc ls (.int (Int32.ofNat n) :: st) mem
    | _ => none
  | .float u :: st => if u = 3 then am_go pc ls (.int 10 :: st) mem else (match X with
    | some x => if u = 0 then am_go pc ls (.int (Int32.ofNat x.1) :: st) mem else none
    | none => none)
  | _ => none
def am_getf (own idx pc : Nat) (ls : am_L) (st : List Value) (mem : am_M) : am_O := match st with
  | .ref a :: st => match am_fld own idx with
    | some (ci, j) => match mem.1[a]? with
      | some (.inr (.inr (.inr (ci', fs)))) => if ci' = ci then (match fs[j]? with
        | some v => am_go pc ls (v :: st) mem
        | none => none) else none
      | _ => none
    | none => none
  | .float u :: st => if u = 2 then (match am_xf own idx with
    | some v => am_go pc ls (v :: st) mem
    | none => none) else none
  | _ => none
def am_putf (k own idx pc : Nat) (ls : am_L) (st : List Value) (mem : am_M) : am_O := match st with
  | v :: .ref a :: st => match am_fld own idx with
    | some (ci, j) => match mem.1[a]? with
      | some (.inr (.inr (.inr (ci', fs)))) => if (decide (ci' = ci) && decide (j < fs.length) && am_fit (am_T ci j) v && (!(am_F ci j).2.2.2 || (decide (am_kd k = 2) && decide (ci = own)))) = true then am_go pc ls st (mem.1.set a (.inr (.inr (.inr (ci, fs.set j v)))), mem.2) else none
      | _ => none
    | none => none
  | _ => none
def am_new (own idx pc : Nat) (ls : am_L) (st : List Value) (mem : am_M) : am_O := match am_nw own idx with
  | some ci => if (decide (1 ≤ mem.2.1) && decide (am_N ci ≤ mem.2.2)) = true then am_go pc ls (.ref mem.1.length :: st) (mem.1 ++ [.inr (.inr (.inr (ci, am_df ci)))], mem.2.1 - 1, mem.2.2 - am_N ci) else none
  | none => none
def am_newa (t : ArrayType) (pc : Nat) (ls : am_L) (st : List Value) (mem : am_M) : am_O := match st with
  | .int n :: st => if (!(decide (n < 0)) && decide (n.toNatClampNeg ≤ 1000000) && decide (1 ≤ mem.2.1) && decide (n.toNatClampNeg ≤ mem.2.2)) = true then (match t with
    | .int => am_go pc ls (.ref mem.1.length :: st) (mem.1 ++ [.inl (0, n.toNatClampNeg, fun _ => 0)], mem.2.1 - 1, mem.2.2 - n.toNatClampNeg)
    | .byte => am_go pc ls (.ref mem.1.length :: st) (mem.1 ++ [.inl (1, n.toNatClampNeg, fun _ => 0)], mem.2.1 - 1, mem.2.2 - n.toNatClampNeg)
    | .boolean => am_go pc ls (.ref mem.1.length :: st) (mem.1 ++ [.inl (2, n.toNatClampNeg, fun _ => 0)], mem.2.1 - 1, mem.2.2 - n.toNatClampNeg)
    | .long => am_go pc ls (.ref mem.1.length :: st) (mem.1 ++ [.inr (.inl (n.toNatClampNeg, fun _ => 0))], mem.2.1 - 1, mem.2.2 - n.toNatClampNeg)
    | _ => none) else none
  | _ => none
def am_mna (own idx pc : Nat) (ls : am_L) (st : List Value) (mem : am_M) : am_O := match st with
  | .int k :: .int n :: st => if (((am_mns.getD own []).lookup idx).isSome && !(decide (n < 0)) && !(decide (k < 0)) && decide (n.toNatClampNeg ≤ 1000000) && decide (k.toNatClampNeg ≤ 1000000) && decide (1 + n.toNatClampNeg ≤ mem.2.1) && decide (n.toNatClampNeg + n.toNatClampNeg * k.toNatClampNeg ≤ mem.2.2)) = true then
      am_go pc ls (.ref mem.1.length :: st) (mem.1 ++ .inr (.inr (.inl (n.toNatClampNeg, fun i => some (mem.1.length + 1 + i)))) :: List.replicate n.toNatClampNeg (.inl (0, k.toNatClampNeg, fun _ => 0)), mem.2.1 - (1 + n.toNatClampNeg), mem.2.2 - (n.toNatClampNeg + n.toNatClampNeg * k.toNatClampNeg)) else none
  | _ => none
/-- a call of method k2 with these arguments, the rest of the stack behind it -/
def am_cal (k2 pc : Nat) (ls : am_L) (as rest : List Value) (mem : am_M) : am_O :=
  if (decide (am_cat rest ≤ 8) && decide (am_bc k2 ≤ mem.2.1) && decide (am_bs k2 ≤ mem.2.2)) = true then some (.inr (.inr (k2, as, (mem.1, am_bc k2, am_bs k2), pc, ls, rest, mem.2.1 - am_bc k2, mem.2.2 - am_bs k2))) else none
def am_invv (own idx pc : Nat) (ls : am_L) (st : List Value) (mem : am_M) : am_O := match am_mth own idx with
  | some k2 => match st.drop (am_na k2) with
    | .ref b :: rest => match mem.1[b]? with
      | some (.inr (.inr (.inr (ci, _)))) => if (decide (am_kd k2 = 0) && decide (ci = am_own k2)) = true then am_cal k2 pc ls (.ref b :: (st.take (am_na k2)).reverse) rest mem else none
      | _ => none
    | .float u :: rest => if (decide (u = 2) && decide (am_kd k2 = 0) && decide (am_own k2 = am_str)) = true then am_cal k2 pc ls (.float u :: (st.take (am_na k2)).reverse) rest mem else none
    | _ => none
  | none => none
def am_invs (own idx pc : Nat) (ls : am_L) (st : List Value) (mem : am_M) : am_O := match am_mth own idx with
  | some k2 => if (decide (am_kd k2 = 1) && decide (am_na k2 ≤ st.length)) = true then am_cal k2 pc ls (st.take (am_na k2)).reverse (st.drop (am_na k2)) mem else none
  | none => none
def am_invi (own idx pc : Nat) (ls : am_L) (st : List Value) (mem : am_M) : am_O :=
  if (decide (idx = am_oi own) && decide (own < am_nO)) = true then (match st with
    | .ref _ :: st => if am_cat st ≤ 8 then am_go pc ls st mem else none
    | _ => none)
  else match am_mth own idx with
  | some k2 => match st.drop (am_na k2) with
    | .ref b :: rest => if am_kd k2 = 2 then am_cal k2 pc ls (.ref b :: (st.take (am_na k2)).reverse) rest mem else none
    | _ => none
  | none => none
def am_iret (k : Nat) (st : List Value) (mem : am_M) : am_O := match st with
  | [.int v] => match am_rt k with
    | some .int => some (.inr (.inl (some (.int v), mem)))
    | some .boolean => if v = 0 ∨ v = 1 then some (.inr (.inl (some (.int v), mem))) else none
    | some .byte => if v = 0 ∨ v = 1 then some (.inr (.inl (some (.int v), mem))) else none
    | _ => none
  | _ => none
def am_lret (k : Nat) (st : List Value) (mem : am_M) : am_O := match st with
  | [.long v] => match am_rt k with
    | some .long => some (.inr (.inl (some (.long v), mem)))
    | _ => none
  | _ => none
def am_vret (k : Nat) (st : List Value) (mem : am_M) : am_O := match st with
  | [] => match am_rt k with
    | none => some (.inr (.inl (none, mem)))
    | _ => none
  | _ => none
def am_ibs (f : Int32 → Int32 → Option Int32) (pc : Nat) (ls : am_L) (st : List Value) (mem : am_M) : am_O := match st with
  | .int y :: .int x :: st => match f x y with
    | some z => am_go pc ls (.int z :: st) mem
    | none => none
  | _ => none
def am_lbs (f : Int64 → Int64 → Option Int64) (pc : Nat) (ls : am_L) (st : List Value) (mem : am_M) : am_O := match st with
  | .long y :: .long x :: st => match f x y with
    | some z => am_go pc ls (.long z :: st) mem
    | none => none
  | _ => none
def am_len : Instr → Nat → Nat
  | .bipush _, _ => 2
  | .sipush _, _ => 3
  | .ldc _, _ => 2
  | .ldc_w _, _ => 3
  | .ldc2_w _, _ => 3
  | .iload _, _ => 2
  | .lload _, _ => 2
  | .aload _, _ => 2
  | .istore _, _ => 2
  | .lstore _, _ => 2
  | .astore _, _ => 2
  | .iinc _ _, _ => 3
  | .ifCond _ _, _ => 3
  | .if_icmp _ _, _ => 3
  | .goto _, _ => 3
  | .tableswitch _ _ _ _, n => n
  | .getfield _, _ => 3
  | .putfield _, _ => 3
  | .getstatic _, _ => 3
  | .invokevirtual _, _ => 3
  | .invokespecial _, _ => 3
  | .invokestatic _, _ => 3
  | .new _, _ => 3
  | .newarray _, _ => 2
  | .multianewarray _ _, _ => 4
  | _, _ => 1
def am_misc (X : am_X) (k own : Nat) (i : Instr) (pc : Nat) (ls : am_L) (st : List Value) (mem : am_M) : am_O := match i with
  | .iconst n => am_go (pc + 1) ls (.int (Int32.ofInt n) :: st) mem
  | .bipush n => am_go (pc + 2) ls (.int (Int8.ofInt n).toInt32 :: st) mem
  | .sipush n => am_go (pc + 3) ls (.int (Int16.ofInt n).toInt32 :: st) mem
  | .lconst n => am_go (pc + 1) ls (.long (Int64.ofNat n.val) :: st) mem
  | .ldc j => match am_ci own j with
    | some v => am_go (pc + 2) ls (.int v :: st) mem
    | none => if ((am_srs.getD own []).lookup j).isSome = true then am_go (pc + 2) ls (.float 2 :: st) mem else none
  | .ldc_w j => match am_ci own j with
    | some v => am_go (pc + 3) ls (.int v :: st) mem
    | none => none
  | .ldc2_w j => match am_cj own j with
    | some v => am_go (pc + 3) ls (.long v :: st) mem
    | none => none
  | .iload j => am_ild (pc + 2) ls st mem j
  | .iload_n j => am_ild (pc + 1) ls st mem j.val
  | .lload j => am_lld (pc + 2) ls st mem j
  | .lload_n j => am_lld (pc + 1) ls st mem j.val
  | .aload j => am_ald (pc + 2) ls st mem j
  | .aload_n j => am_ald (pc + 1) ls st mem j.val
  | .istore j => am_ist (pc + 2) ls st mem j
  | .istore_n j => am_ist (pc + 1) ls st mem j.val
  | .lstore j => am_lst (pc + 2) ls st mem j
  | .lstore_n j => am_lst (pc + 1) ls st mem j.val
  | .astore j => am_ast (pc + 2) ls st mem j
  | .astore_n j => am_ast (pc + 1) ls st mem j.val
  | .iinc j n => am_iic (pc + 3) ls st mem j n
  | .iaload => am_iald X (pc + 1) ls st mem
  | .baload => am_bald (pc + 1) ls st mem
  | .laload => am_lald (pc + 1) ls st mem
  | .aaload => am_aald (pc + 1) ls st mem
  | .iastore => am_iast (pc + 1) ls st mem
  | .bastore => am_bast (pc + 1) ls st mem
  | .lastore => am_last (pc + 1) ls st mem
  | .arraylength => am_alen X (pc + 1) ls st mem
  | .ineg => match st with
    | .int x :: st => am_go (pc + 1) ls (.int (-x) :: st) mem
    | _ => none
  | .i2l => match st with
    | .int x :: st => am_go (pc + 1) ls (.long x.toInt64 :: st) mem
    | _ => none
  | .l2i => match st with
    | .long x :: st => am_go (pc + 1) ls (.int x.toInt32 :: st) mem
    | _ => none
  | .i2b => match st with
    | .int x :: st => am_go (pc + 1) ls (.int x.toInt8.toInt32 :: st) mem
    | _ => none
  | .i2c => match st with
    | .int x :: st => am_go (pc + 1) ls (.int (x.toUInt32 % 65536).toInt32 :: st) mem
    | _ => none
  | .lshl => match st with
    | .int y :: .long x :: st => am_go (pc + 1) ls (.long (x <<< (y.toInt64 &&& 63)) :: st) mem
    | _ => none
  | .lshr => match st with
    | .int y :: .long x :: st => am_go (pc + 1) ls (.long (x >>> (y.toInt64 &&& 63)) :: st) mem
    | _ => none
  | .lushr => match st with
    | .int y :: .long x :: st => am_go (pc + 1) ls (.long (x.toUInt64 >>> (y.toInt64.toUInt64 &&& Int64.toUInt64 63)).toInt64 :: st) mem
    | _ => none
  | .lcmp => match st with
    | .long y :: .long x :: st => am_go (pc + 1) ls (.int (lg_cmp x y) :: st) mem
    | _ => none
  | .dup => match st with
    | a :: st => if a.category = 1 then am_go (pc + 1) ls (a :: a :: st) mem else none
    | _ => none
  | .dup_x1 => match st with
    | a :: b :: st => if a.category = 1 ∧ b.category = 1 then am_go (pc + 1) ls (a :: b :: a :: st) mem else none
    | _ => none
  | .dup2 => match st with
    | a :: b :: st => if a.category = 1 ∧ b.category = 1 then am_go (pc + 1) ls (a :: b :: a :: b :: st) mem else none
    | _ => none
  | .ifCond c off => match st with
    | .int x :: st => if am_cmp c x 0 = true then am_to pc off ls st mem else am_go (pc + 3) ls st mem
    | _ => none
  | .if_icmp c off => match st with
    | .int y :: .int x :: st => if am_cmp c x y = true then am_to pc off ls st mem else am_go (pc + 3) ls st mem
    | _ => none
  | .goto off => am_to pc off ls st mem
  | .tableswitch d lo hi offs => match st with
    | .int x :: st => if x.toInt < lo ∨ hi < x.toInt then am_to pc d ls st mem else (match offs[(x.toInt - lo).toNat]? with
      | some o => am_to pc o ls st mem
      | none => none)
    | _ => none
  | .getstatic j => match am_sta own j with
    | some v => am_go (pc + 3) ls (v :: st) mem
    | none => none
  | .getfield j => am_getf own j (pc + 3) ls st mem
  | .putfield j => am_putf k own j (pc + 3) ls st mem
  | .new j => am_new own j (pc + 3) ls st mem
  | .newarray t => am_newa t (pc + 2) ls st mem
  | .multianewarray j d => if d = 2 then am_mna own j (pc + 4) ls st mem else none
  | .invokevirtual j => am_invv own j (pc + 3) ls st mem
  | .invokestatic j => am_invs own j (pc + 3) ls st mem
  | .invokespecial j => am_invi own j (pc + 3) ls st mem
  | .ireturn => am_iret k st mem
  | .lreturn => am_lret k st mem
  | .return_ => am_vret k st mem
  | _ => none
def am_step (X : am_X) (k own : Nat) (i : Instr) (pc : Nat) (ls : am_L) (st : List Value) (mem : am_M) : am_O := match am_ib i with
  | some f => am_ibs f (pc + 1) ls st mem
  | none => match am_lb i with
    | some f => am_lbs f (pc + 1) ls st mem
    | none => am_misc X k own i pc ls st mem
def am_at (X : am_X) (k pc : Nat) (ls : am_L) (st : List Value) (mem : am_M) : am_O := match am_code k pc with
  | some (i, n) => if n = am_len i n then am_step X k (am_own k) i pc ls st mem else none
  | none => none
abbrev am_Fn : Type := Nat → List Value → am_M → am_R → Prop
def am_do (call : am_Fn) (o : am_O) (K : am_K) (R : am_R) : Prop := match o with
  | some (.inl c) => K c.1 c.2.1 c.2.2.1 c.2.2.2
  | some (.inr (.inl r)) => R r.1 r.2
  | some (.inr (.inr q)) => call q.1 q.2.1 q.2.2.1 (fun v m => K q.2.2.2.1 q.2.2.2.2.1 (v.toList ++ q.2.2.2.2.2.1) (m.1, q.2.2.2.2.2.2))
  | none => False
/-- less is known of the locals -/
def am_le : am_L → am_L → Prop
  | [], [] => True
  | none :: l, _ :: l' => am_le l l'
  | some v :: l, w :: l' => w = some v ∧ am_le l l'
  | _, _ => False
/-- from here the machine comes to an end with R -/
def am_Run (X : am_X) (call : am_Fn) (k : Nat) (R : am_R) (pc : Nat) (ls : am_L) (st : List Value) (mem : am_M) : Prop :=
  ∀ P : am_K, (∀ pc ls st mem, am_do call (am_at X k pc ls st mem) P R → P pc ls st mem) → (∀ pc ls ls' st mem, am_le ls' ls → P pc ls' st mem → P pc ls st mem) → P pc ls st mem
def am_ent : List Value → am_L
  | [] => []
  | v :: l => if v.category = 2 then some v :: none :: am_ent l else some v :: am_ent l
def am_pad (l : am_L) (n : Nat) : am_L := l ++ List.replicate (n - l.length) none
def am_X0 : am_X := none
/-- methods that are not walked: of Math, and arraycopy of ints -/
def am_isp (k : Nat) : Bool := decide (k = am_acp) || decide (am_own k = am_cmath)
def am_acopy (a : Nat) (sp : Int32) (b : Nat) (dp n : Int32) (mem : am_M) : Option (Option Value × am_M) := match mem.1[a]?, mem.1[b]? with
  | some (.inl (0, n0, f)), some (.inl (0, n1, g)) => if (decide (a ≠ b) && !(decide (sp < 0)) && !(decide (dp < 0)) && !(decide (n < 0)) && decide (sp.toNatClampNeg + n.toNatClampNeg ≤ n0) && decide (dp.toNatClampNeg + n.toNatClampNeg ≤ n1)) = true then some (none, mem.1.set b (.inl (0, n1, va_cpy f g sp.toNatClampNeg dp.toNatClampNeg n.toNatClampNeg)), mem.2) else none
  | _, _ => none
def am_prim (k : Nat) (as : List Value) (mem : am_M) : Option (Option Value × am_M) :=
  if k = am_acp then (match as with
    | [.ref a, .int sp, .ref b, .int dp, .int n] => am_acopy a sp b dp n mem
    | _ => none)
  else if k = am_mth1.1 then (match as with
    | [.int x, .int y] => some (some (.int (if x < y then y else x)), mem)
    | _ => none)
  else if k = am_mth1.2.1 then (match as with
    | [.int x, .int y] => some (some (.int (if y < x then y else x)), mem)
    | _ => none)
  else if k = am_mth1.2.2.1 then (match as with
    | [.long x, .long y] => some (some (.long (if y < x then x else y)), mem)
    | _ => none)
  else if k = am_mth1.2.2.2 then (match as with
    | [.long x, .long y] => some (some (.long (if y < x then y else x)), mem)
    | _ => none)
  else none
def am_pr (o : Option (Option Value × am_M)) (R : am_R) : Prop := match o with
  | some q => R q.1 q.2
  | none => False
/-- the methods, calls d deep at most -/
def am_meth : Nat → am_Fn
  | 0 => fun _ _ _ _ => False
  | d + 1 => fun k as mem R => if am_isp k = true then am_pr (am_prim k as mem) R else ((am_ent as).length ≤ am_ml k ∧ am_Run am_X0 (am_meth d) k R 0 (am_pad (am_ent as) (am_ml k)) [] mem)
def am_mono (call : am_Fn) : Prop := ∀ k as mem (R R' : am_R), (∀ v m, R v m → R' v m) → call k as mem R → call k as mem R'
theorem am_do_mono {call : am_Fn} (hc : am_mono call) {o : am_O} {K K' : am_K} {R R' : am_R} (hK : ∀ pc ls st mem, K pc ls st mem → K' pc ls st mem) (hR : ∀ v m, R v m → R' v m) (h : am_do call o K R) : am_do call o K' R' := by
  match o, h with
  | some (.inl c), h => exact hK _ _ _ _ h
  | some (.inr (.inl r)), h => exact hR _ _ h
  | some (.inr (.inr q)), h => exact hc _ _ _ _ _ (fun v m hh => hK _ _ _ _ hh) h
theorem am_Run.step {X : am_X} {call : am_Fn} {k : Nat} {R : am_R} {pc : Nat} {ls : am_L} {st : List Value} {mem : am_M} (hc : am_mono call) (h : am_do call (am_at X k pc ls st mem) (am_Run X call k R) R) : am_Run X call k R pc ls st mem := by
  intro P h1 h2
  exact h1 _ _ _ _ (am_do_mono hc (fun pc ls st mem hr => hr P h1 h2) (fun _ _ h => h) h)
theorem am_Run.weak {X : am_X} {call : am_Fn} {k : Nat} {R : am_R} {pc : Nat} {ls ls' : am_L} {st : List Value} {mem : am_M} (hl : am_le ls' ls) (h : am_Run X call k R pc ls' st mem) : am_Run X call k R pc ls st mem := by
  intro P h1 h2
  exact h2 _ _ _ _ _ hl (h P h1 h2)
theorem am_Run.mono {X : am_X} {call : am_Fn} (hc : am_mono call) {k : Nat} {R R' : am_R} {pc : Nat} {ls : am_L} {st : List Value} {mem : am_M} (hR : ∀ v m, R v m → R' v m) (h : am_Run X call k R pc ls st mem) : am_Run X call k R' pc ls st mem := by
  intro P h1 h2
  exact h P (fun pc ls st mem hd => h1 _ _ _ _ (am_do_mono hc (fun _ _ _ _ h => h) hR hd)) h2
theorem am_pr_mono {o : Option (Option Value × am_M)} {R R' : am_R} (hR : ∀ v m, R v m → R' v m) (h : am_pr o R) : am_pr o R' := by
  match o, h with
  | some q, h => exact hR _ _ h
theorem am_meth_mono : ∀ d, am_mono (am_meth d)
  | 0 => fun _ _ _ _ _ _ h => h
  | d + 1 => fun k as mem R R' hR h => by
    simp only [am_meth] at h ⊢
    by_cases hp : am_isp k = true
    · rw [if_pos hp] at h ⊢
      exact am_pr_mono hR h
    · rw [if_neg hp] at h ⊢
      exact ⟨h.1, am_Run.mono (am_meth_mono d) hR h.2⟩
