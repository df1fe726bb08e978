/-! THE CELLS OF THE TWO OBJECTS, once they are made: I c j (ints: fields and arrays), L c j (longs); which cell is what: printed by wip/whole/layout.py -/
def am_mk (I : Nat → Nat → Int32) (L : Nat → Nat → Int64) : List am_C := [
  .inr (.inr (.inr (0, [.ref 1, .ref 2, .ref 16, .ref 42, .ref 66, .ref 74, .ref 85, .ref 91, .ref 93, .ref 95, .ref 97, .ref 99, .ref 102, .ref 106]))),
  .inl (0, 7, I 1),
  .inr (.inr (.inr (11, [.ref 3, .ref 4, .ref 5]))),
  .inl (0, 10, I 3),
  .inl (0, 5, I 4),
  .inr (.inr (.inl (10, fun i => some (6 + i)))),
  .inl (0, 10, I 6),
  .inl (0, 10, I 7),
  .inl (0, 10, I 8),
  .inl (0, 10, I 9),
  .inl (0, 10, I 10),
  .inl (0, 10, I 11),
  .inl (0, 10, I 12),
  .inl (0, 10, I 13),
  .inl (0, 10, I 14),
  .inl (0, 10, I 15),
  .inr (.inr (.inr (3, [.int (I 16 0), .ref 17, .ref 18, .ref 19, .ref 20, .ref 21]))),
  .inl (0, 20, I 17),
  .inl (0, 20, I 18),
  .inl (0, 20, I 19),
  .inl (0, 20, I 20),
  .inr (.inr (.inl (20, fun i => some (22 + i)))),
  .inl (0, 5, I 22),
  .inl (0, 5, I 23),
  .inl (0, 5, I 24),
  .inl (0, 5, I 25),
  .inl (0, 5, I 26),
  .inl (0, 5, I 27),
  .inl (0, 5, I 28),
  .inl (0, 5, I 29),
  .inl (0, 5, I 30),
  .inl (0, 5, I 31),
  .inl (0, 5, I 32),
  .inl (0, 5, I 33),
  .inl (0, 5, I 34),
  .inl (0, 5, I 35),
  .inl (0, 5, I 36),
  .inl (0, 5, I 37),
  .inl (0, 5, I 38),
  .inl (0, 5, I 39),
  .inl (0, 5, I 40),
  .inl (0, 5, I 41),
  .inr (.inr (.inr (2, [.int (I 42 0), .ref 43, .ref 44, .ref 45]))),
  .inl (0, 20, I 43),
  .inl (0, 20, I 44),
  .inr (.inr (.inl (20, fun i => some (46 + i)))),
  .inl (0, 31, I 46),
  .inl (0, 31, I 47),
  .inl (0, 31, I 48),
  .inl (0, 31, I 49),
  .inl (0, 31, I 50),
  .inl (0, 31, I 51),
  .inl (0, 31, I 52),
  .inl (0, 31, I 53),
  .inl (0, 31, I 54),
  .inl (0, 31, I 55),
  .inl (0, 31, I 56),
  .inl (0, 31, I 57),
  .inl (0, 31, I 58),
  .inl (0, 31, I 59),
  .inl (0, 31, I 60),
  .inl (0, 31, I 61),
  .inl (0, 31, I 62),
  .inl (0, 31, I 63),
  .inl (0, 31, I 64),
  .inl (0, 31, I 65),
  .inr (.inr (.inr (8, [.int (I 66 0), .int (I 66 1), .ref 67, .ref 68, .ref 69, .ref 70, .ref 71, .ref 72, .ref 73]))),
  .inl (0, 60, I 67),
  .inl (0, 60, I 68),
  .inl (0, 60, I 69),
  .inl (0, 60, I 70),
  .inl (0, 60, I 71),
  .inl (0, 60, I 72),
  .inl (0, 60, I 73),
  .inr (.inr (.inr (5, [.int (I 74 0), .ref 75, .ref 76, .ref 77, .ref 66, .ref 78, .ref 81, .ref 84, .int (I 74 8)]))),
  .inl (0, 20, I 75),
  .inl (0, 20, I 76),
  .inl (0, 20, I 77),
  .inr (.inr (.inl (2, fun i => some (79 + i)))),
  .inl (0, 60, I 79),
  .inl (0, 60, I 80),
  .inr (.inr (.inl (2, fun i => some (82 + i)))),
  .inl (0, 60, I 82),
  .inl (0, 60, I 83),
  .inl (0, 20, I 84),
  .inr (.inr (.inr (9, [.int (I 85 0), .ref 86, .ref 87, .ref 88, .ref 89, .ref 90]))),
  .inl (0, 30, I 86),
  .inl (0, 30, I 87),
  .inl (0, 30, I 88),
  .inl (0, 1800, I 89),
  .inr (.inl (60, L 90)),
  .inr (.inr (.inr (6, [.int (I 91 0), .ref 92]))),
  .inl (0, 60, I 92),
  .inr (.inr (.inr (10, [.int (I 93 0), .ref 94, .ref 91, .int (I 93 3), .int (I 93 4)]))),
  .inl (0, 60, I 94),
  .inr (.inr (.inr (6, [.int (I 95 0), .ref 96]))),
  .inl (0, 12, I 96),
  .inr (.inr (.inr (6, [.int (I 97 0), .ref 98]))),
  .inl (0, 6, I 98),
  .inr (.inr (.inr (7, [.ref 2, .ref 16, .ref 42, .ref 66, .ref 74, .ref 85, .ref 100, .ref 101, .int (I 99 8)]))),
  .inl (0, 10, I 100),
  .inl (0, 120, I 101),
  .inr (.inr (.inr (1, [.int (I 102 0), .int (I 102 1), .ref 66, .ref 99, .ref 103, .ref 104, .ref 105, .int (I 102 7)]))),
  .inl (0, 10, I 103),
  .inl (0, 10, I 104),
  .inl (0, 11, I 105),
  .inr (.inr (.inr (4, [.ref 107, .int (I 106 1), .int (I 106 2), .ref 16, .ref 66, .ref 74, .ref 99, .ref 108, .ref 109, .int (I 106 9), .ref 110, .ref 111, .ref 112]))),
  .inl (0, 6, I 107),
  .inl (0, 6, I 108),
  .inl (0, 6, I 109),
  .inl (0, 20, I 110),
  .inl (0, 6, I 111),
  .inr (.inl (64, L 112)),
  .inr (.inr (.inr (12, [.int (I 113 0), .ref 114, .ref 115, .ref 116, .int (I 113 4), .ref 117, .ref 118, .ref 119, .ref 120, .ref 121, .int (I 113 10), .ref 122, .ref 123, .ref 124, .int (I 113 14), .ref 125, .ref 126, .ref 127, .ref 128, .ref 129, .ref 130, .ref 131, .ref 132, .ref 133, .int (I 113 24), .int (I 113 25), .ref 134, .ref 135, .ref 136, .ref 137, .ref 138, .ref 139, .ref 140, .ref 141, .ref 142, .ref 143, .ref 144, .ref 145, .ref 146, .int (I 113 39), .ref 147, .int (I 113 41), .ref 148, .ref 149, .ref 150, .ref 151, .ref 152, .ref 153, .ref 154, .ref 155, .int (I 113 50), .int (I 113 51), .ref 156]))),
  .inl (0, 10, I 114),
  .inl (0, 100, I 115),
  .inl (0, 5, I 116),
  .inl (0, 20, I 117),
  .inl (0, 20, I 118),
  .inl (0, 20, I 119),
  .inl (0, 20, I 120),
  .inl (0, 100, I 121),
  .inl (0, 20, I 122),
  .inl (0, 20, I 123),
  .inl (0, 620, I 124),
  .inl (0, 60, I 125),
  .inl (0, 60, I 126),
  .inl (0, 60, I 127),
  .inl (0, 60, I 128),
  .inl (0, 60, I 129),
  .inl (0, 120, I 130),
  .inl (0, 120, I 131),
  .inl (0, 120, I 132),
  .inl (1, 60, I 133),
  .inl (0, 30, I 134),
  .inl (0, 30, I 135),
  .inl (0, 30, I 136),
  .inl (1, 1800, I 137),
  .inl (2, 7, I 138),
  .inr (.inl (7, L 139)),
  .inl (0, 7, I 140),
  .inr (.inl (7, L 141)),
  .inl (0, 7, I 142),
  .inl (0, 7, I 143),
  .inr (.inl (7, L 144)),
  .inl (2, 1501, I 145),
  .inl (0, 12, I 146),
  .inl (0, 6, I 147),
  .inl (0, 10, I 148),
  .inl (0, 6, I 149),
  .inl (0, 20, I 150),
  .inl (0, 64, I 151),
  .inl (0, 64, I 152),
  .inl (0, 20, I 153),
  .inl (0, 120, I 154),
  .inl (0, 6, I 155),
  .inl (0, 7, I 156)]
section MK
variable {I : Nat → Nat → Int32} {L : Nat → Nat → Int64}
theorem mk_0 : (am_mk I L)[0]? = some (.inr (.inr (.inr (0, [.ref 1, .ref 2, .ref 16, .ref 42, .ref 66, .ref 74, .ref 85, .ref 91, .ref 93, .ref 95, .ref 97, .ref 99, .ref 102, .ref 106])))) := rfl
theorem mk_1 : (am_mk I L)[1]? = some (.inl (0, 7, I 1)) := rfl
set_option maxRecDepth 100000 in
theorem mk_s1 {f : Nat → Int32} : (am_mk I L).set 1 (.inl (0, 7, f)) = am_mk (va_up I 1 f) L := rfl
theorem mk_2 : (am_mk I L)[2]? = some (.inr (.inr (.inr (11, [.ref 3, .ref 4, .ref 5])))) := rfl
theorem mk_3 : (am_mk I L)[3]? = some (.inl (0, 10, I 3)) := rfl
set_option maxRecDepth 100000 in
theorem mk_s3 {f : Nat → Int32} : (am_mk I L).set 3 (.inl (0, 10, f)) = am_mk (va_up I 3 f) L := rfl
theorem mk_4 : (am_mk I L)[4]? = some (.inl (0, 5, I 4)) := rfl
set_option maxRecDepth 100000 in
theorem mk_s4 {f : Nat → Int32} : (am_mk I L).set 4 (.inl (0, 5, f)) = am_mk (va_up I 4 f) L := rfl
theorem mk_5 : (am_mk I L)[5]? = some (.inr (.inr (.inl (10, fun i => some (6 + i))))) := rfl
theorem mk_6 : (am_mk I L)[6]? = some (.inl (0, 10, I 6)) := rfl
set_option maxRecDepth 100000 in
theorem mk_s6 {f : Nat → Int32} : (am_mk I L).set 6 (.inl (0, 10, f)) = am_mk (va_up I 6 f) L := rfl
theorem mk_7 : (am_mk I L)[7]? = some (.inl (0, 10, I 7)) := rfl
set_option maxRecDepth 100000 in
theorem mk_s7 {f : Nat → Int32} : (am_mk I L).set 7 (.inl (0, 10, f)) = am_mk (va_up I 7 f) L := rfl
theorem mk_8 : (am_mk I L)[8]? = some (.inl (0, 10, I 8)) := rfl
set_option maxRecDepth 100000 in
theorem mk_s8 {f : Nat → Int32} : (am_mk I L).set 8 (.inl (0, 10, f)) = am_mk (va_up I 8 f) L := rfl
theorem mk_9 : (am_mk I L)[9]? = some (.inl (0, 10, I 9)) := rfl
set_option maxRecDepth 100000 in
theorem mk_s9 {f : Nat → Int32} : (am_mk I L).set 9 (.inl (0, 10, f)) = am_mk (va_up I 9 f) L := rfl
theorem mk_10 : (am_mk I L)[10]? = some (.inl (0, 10, I 10)) := rfl
set_option maxRecDepth 100000 in
theorem mk_s10 {f : Nat → Int32} : (am_mk I L).set 10 (.inl (0, 10, f)) = am_mk (va_up I 10 f) L := rfl
theorem mk_11 : (am_mk I L)[11]? = some (.inl (0, 10, I 11)) := rfl
set_option maxRecDepth 100000 in
theorem mk_s11 {f : Nat → Int32} : (am_mk I L).set 11 (.inl (0, 10, f)) = am_mk (va_up I 11 f) L := rfl
theorem mk_12 : (am_mk I L)[12]? = some (.inl (0, 10, I 12)) := rfl
set_option maxRecDepth 100000 in
theorem mk_s12 {f : Nat → Int32} : (am_mk I L).set 12 (.inl (0, 10, f)) = am_mk (va_up I 12 f) L := rfl
theorem mk_13 : (am_mk I L)[13]? = some (.inl (0, 10, I 13)) := rfl
set_option maxRecDepth 100000 in
theorem mk_s13 {f : Nat → Int32} : (am_mk I L).set 13 (.inl (0, 10, f)) = am_mk (va_up I 13 f) L := rfl
theorem mk_14 : (am_mk I L)[14]? = some (.inl (0, 10, I 14)) := rfl
set_option maxRecDepth 100000 in
theorem mk_s14 {f : Nat → Int32} : (am_mk I L).set 14 (.inl (0, 10, f)) = am_mk (va_up I 14 f) L := rfl
theorem mk_15 : (am_mk I L)[15]? = some (.inl (0, 10, I 15)) := rfl
set_option maxRecDepth 100000 in
theorem mk_s15 {f : Nat → Int32} : (am_mk I L).set 15 (.inl (0, 10, f)) = am_mk (va_up I 15 f) L := rfl
theorem mk_16 : (am_mk I L)[16]? = some (.inr (.inr (.inr (3, [.int (I 16 0), .ref 17, .ref 18, .ref 19, .ref 20, .ref 21])))) := rfl
set_option maxRecDepth 100000 in
theorem mk_p16_0 {v : Int32} : (am_mk I L).set 16 (.inr (.inr (.inr (3, [.int (I 16 0), .ref 17, .ref 18, .ref 19, .ref 20, .ref 21].set 0 (.int v))))) = am_mk (va_up I 16 (upd (I 16) 0 v)) L := rfl
theorem mk_17 : (am_mk I L)[17]? = some (.inl (0, 20, I 17)) := rfl
set_option maxRecDepth 100000 in
theorem mk_s17 {f : Nat → Int32} : (am_mk I L).set 17 (.inl (0, 20, f)) = am_mk (va_up I 17 f) L := rfl
theorem mk_18 : (am_mk I L)[18]? = some (.inl (0, 20, I 18)) := rfl
set_option maxRecDepth 100000 in
theorem mk_s18 {f : Nat → Int32} : (am_mk I L).set 18 (.inl (0, 20, f)) = am_mk (va_up I 18 f) L := rfl
theorem mk_19 : (am_mk I L)[19]? = some (.inl (0, 20, I 19)) := rfl
set_option maxRecDepth 100000 in
theorem mk_s19 {f : Nat → Int32} : (am_mk I L).set 19 (.inl (0, 20, f)) = am_mk (va_up I 19 f) L := rfl
theorem mk_20 : (am_mk I L)[20]? = some (.inl (0, 20, I 20)) := rfl
set_option maxRecDepth 100000 in
theorem mk_s20 {f : Nat → Int32} : (am_mk I L).set 20 (.inl (0, 20, f)) = am_mk (va_up I 20 f) L := rfl
theorem mk_21 : (am_mk I L)[21]? = some (.inr (.inr (.inl (20, fun i => some (22 + i))))) := rfl
theorem mk_22 : (am_mk I L)[22]? = some (.inl (0, 5, I 22)) := rfl
set_option maxRecDepth 100000 in
theorem mk_s22 {f : Nat → Int32} : (am_mk I L).set 22 (.inl (0, 5, f)) = am_mk (va_up I 22 f) L := rfl
theorem mk_23 : (am_mk I L)[23]? = some (.inl (0, 5, I 23)) := rfl
set_option maxRecDepth 100000 in
theorem mk_s23 {f : Nat → Int32} : (am_mk I L).set 23 (.inl (0, 5, f)) = am_mk (va_up I 23 f) L := rfl
theorem mk_24 : (am_mk I L)[24]? = some (.inl (0, 5, I 24)) := rfl
set_option maxRecDepth 100000 in
theorem mk_s24 {f : Nat → Int32} : (am_mk I L).set 24 (.inl (0, 5, f)) = am_mk (va_up I 24 f) L := rfl
theorem mk_25 : (am_mk I L)[25]? = some (.inl (0, 5, I 25)) := rfl
set_option maxRecDepth 100000 in
theorem mk_s25 {f : Nat → Int32} : (am_mk I L).set 25 (.inl (0, 5, f)) = am_mk (va_up I 25 f) L := rfl
theorem mk_26 : (am_mk I L)[26]? = some (.inl (0, 5, I 26)) := rfl
set_option maxRecDepth 100000 in
theorem mk_s26 {f : Nat → Int32} : (am_mk I L).set 26 (.inl (0, 5, f)) = am_mk (va_up I 26 f) L := rfl
theorem mk_27 : (am_mk I L)[27]? = some (.inl (0, 5, I 27)) := rfl
set_option maxRecDepth 100000 in
theorem mk_s27 {f : Nat → Int32} : (am_mk I L).set 27 (.inl (0, 5, f)) = am_mk (va_up I 27 f) L := rfl
theorem mk_28 : (am_mk I L)[28]? = some (.inl (0, 5, I 28)) := rfl
set_option maxRecDepth 100000 in
theorem mk_s28 {f : Nat → Int32} : (am_mk I L).set 28 (.inl (0, 5, f)) = am_mk (va_up I 28 f) L := rfl
theorem mk_29 : (am_mk I L)[29]? = some (.inl (0, 5, I 29)) := rfl
set_option maxRecDepth 100000 in
theorem mk_s29 {f : Nat → Int32} : (am_mk I L).set 29 (.inl (0, 5, f)) = am_mk (va_up I 29 f) L := rfl
theorem mk_30 : (am_mk I L)[30]? = some (.inl (0, 5, I 30)) := rfl
set_option maxRecDepth 100000 in
theorem mk_s30 {f : Nat → Int32} : (am_mk I L).set 30 (.inl (0, 5, f)) = am_mk (va_up I 30 f) L := rfl
theorem mk_31 : (am_mk I L)[31]? = some (.inl (0, 5, I 31)) := rfl
set_option maxRecDepth 100000 in
theorem mk_s31 {f : Nat → Int32} : (am_mk I L).set 31 (.inl (0, 5, f)) = am_mk (va_up I 31 f) L := rfl
theorem mk_32 : (am_mk I L)[32]? = some (.inl (0, 5, I 32)) := rfl
set_option maxRecDepth 100000 in
theorem mk_s32 {f : Nat → Int32} : (am_mk I L).set 32 (.inl (0, 5, f)) = am_mk (va_up I 32 f) L := rfl
theorem mk_33 : (am_mk I L)[33]? = some (.inl (0, 5, I 33)) := rfl
set_option maxRecDepth 100000 in
theorem mk_s33 {f : Nat → Int32} : (am_mk I L).set 33 (.inl (0, 5, f)) = am_mk (va_up I 33 f) L := rfl
theorem mk_34 : (am_mk I L)[34]? = some (.inl (0, 5, I 34)) := rfl
set_option maxRecDepth 100000 in
theorem mk_s34 {f : Nat → Int32} : (am_mk I L).set 34 (.inl (0, 5, f)) = am_mk (va_up I 34 f) L := rfl
theorem mk_35 : (am_mk I L)[35]? = some (.inl (0, 5, I 35)) := rfl
set_option maxRecDepth 100000 in
theorem mk_s35 {f : Nat → Int32} : (am_mk I L).set 35 (.inl (0, 5, f)) = am_mk (va_up I 35 f) L := rfl
theorem mk_36 : (am_mk I L)[36]? = some (.inl (0, 5, I 36)) := rfl
set_option maxRecDepth 100000 in
theorem mk_s36 {f : Nat → Int32} : (am_mk I L).set 36 (.inl (0, 5, f)) = am_mk (va_up I 36 f) L := rfl
theorem mk_37 : (am_mk I L)[37]? = some (.inl (0, 5, I 37)) := rfl
set_option maxRecDepth 100000 in
theorem mk_s37 {f : Nat → Int32} : (am_mk I L).set 37 (.inl (0, 5, f)) = am_mk (va_up I 37 f) L := rfl
theorem mk_38 : (am_mk I L)[38]? = some (.inl (0, 5, I 38)) := rfl
set_option maxRecDepth 100000 in
theorem mk_s38 {f : Nat → Int32} : (am_mk I L).set 38 (.inl (0, 5, f)) = am_mk (va_up I 38 f) L := rfl
theorem mk_39 : (am_mk I L)[39]? = some (.inl (0, 5, I 39)) := rfl
set_option maxRecDepth 100000 in
theorem mk_s39 {f : Nat → Int32} : (am_mk I L).set 39 (.inl (0, 5, f)) = am_mk (va_up I 39 f) L := rfl
theorem mk_40 : (am_mk I L)[40]? = some (.inl (0, 5, I 40)) := rfl
set_option maxRecDepth 100000 in
theorem mk_s40 {f : Nat → Int32} : (am_mk I L).set 40 (.inl (0, 5, f)) = am_mk (va_up I 40 f) L := rfl
theorem mk_41 : (am_mk I L)[41]? = some (.inl (0, 5, I 41)) := rfl
set_option maxRecDepth 100000 in
theorem mk_s41 {f : Nat → Int32} : (am_mk I L).set 41 (.inl (0, 5, f)) = am_mk (va_up I 41 f) L := rfl
theorem mk_42 : (am_mk I L)[42]? = some (.inr (.inr (.inr (2, [.int (I 42 0), .ref 43, .ref 44, .ref 45])))) := rfl
set_option maxRecDepth 100000 in
theorem mk_p42_0 {v : Int32} : (am_mk I L).set 42 (.inr (.inr (.inr (2, [.int (I 42 0), .ref 43, .ref 44, .ref 45].set 0 (.int v))))) = am_mk (va_up I 42 (upd (I 42) 0 v)) L := rfl
theorem mk_43 : (am_mk I L)[43]? = some (.inl (0, 20, I 43)) := rfl
set_option maxRecDepth 100000 in
theorem mk_s43 {f : Nat → Int32} : (am_mk I L).set 43 (.inl (0, 20, f)) = am_mk (va_up I 43 f) L := rfl
theorem mk_44 : (am_mk I L)[44]? = some (.inl (0, 20, I 44)) := rfl
set_option maxRecDepth 100000 in
theorem mk_s44 {f : Nat → Int32} : (am_mk I L).set 44 (.inl (0, 20, f)) = am_mk (va_up I 44 f) L := rfl
theorem mk_45 : (am_mk I L)[45]? = some (.inr (.inr (.inl (20, fun i => some (46 + i))))) := rfl
theorem mk_46 : (am_mk I L)[46]? = some (.inl (0, 31, I 46)) := rfl
set_option maxRecDepth 100000 in
theorem mk_s46 {f : Nat → Int32} : (am_mk I L).set 46 (.inl (0, 31, f)) = am_mk (va_up I 46 f) L := rfl
theorem mk_47 : (am_mk I L)[47]? = some (.inl (0, 31, I 47)) := rfl
set_option maxRecDepth 100000 in
theorem mk_s47 {f : Nat → Int32} : (am_mk I L).set 47 (.inl (0, 31, f)) = am_mk (va_up I 47 f) L := rfl
theorem mk_48 : (am_mk I L)[48]? = some (.inl (0, 31, I 48)) := rfl
set_option maxRecDepth 100000 in
theorem mk_s48 {f : Nat → Int32} : (am_mk I L).set 48 (.inl (0, 31, f)) = am_mk (va_up I 48 f) L := rfl
theorem mk_49 : (am_mk I L)[49]? = some (.inl (0, 31, I 49)) := rfl
set_option maxRecDepth 100000 in
theorem mk_s49 {f : Nat → Int32} : (am_mk I L).set 49 (.inl (0, 31, f)) = am_mk (va_up I 49 f) L := rfl
theorem mk_50 : (am_mk I L)[50]? = some (.inl (0, 31, I 50)) := rfl
set_option maxRecDepth 100000 in
theorem mk_s50 {f : Nat → Int32} : (am_mk I L).set 50 (.inl (0, 31, f)) = am_mk (va_up I 50 f) L := rfl
theorem mk_51 : (am_mk I L)[51]? = some (.inl (0, 31, I 51)) := rfl
set_option maxRecDepth 100000 in
theorem mk_s51 {f : Nat → Int32} : (am_mk I L).set 51 (.inl (0, 31, f)) = am_mk (va_up I 51 f) L := rfl
theorem mk_52 : (am_mk I L)[52]? = some (.inl (0, 31, I 52)) := rfl
set_option maxRecDepth 100000 in
theorem mk_s52 {f : Nat → Int32} : (am_mk I L).set 52 (.inl (0, 31, f)) = am_mk (va_up I 52 f) L := rfl
theorem mk_53 : (am_mk I L)[53]? = some (.inl (0, 31, I 53)) := rfl
set_option maxRecDepth 100000 in
theorem mk_s53 {f : Nat → Int32} : (am_mk I L).set 53 (.inl (0, 31, f)) = am_mk (va_up I 53 f) L := rfl
theorem mk_54 : (am_mk I L)[54]? = some (.inl (0, 31, I 54)) := rfl
set_option maxRecDepth 100000 in
theorem mk_s54 {f : Nat → Int32} : (am_mk I L).set 54 (.inl (0, 31, f)) = am_mk (va_up I 54 f) L := rfl
theorem mk_55 : (am_mk I L)[55]? = some (.inl (0, 31, I 55)) := rfl
set_option maxRecDepth 100000 in
theorem mk_s55 {f : Nat → Int32} : (am_mk I L).set 55 (.inl (0, 31, f)) = am_mk (va_up I 55 f) L := rfl
theorem mk_56 : (am_mk I L)[56]? = some (.inl (0, 31, I 56)) := rfl
set_option maxRecDepth 100000 in
theorem mk_s56 {f : Nat → Int32} : (am_mk I L).set 56 (.inl (0, 31, f)) = am_mk (va_up I 56 f) L := rfl
theorem mk_57 : (am_mk I L)[57]? = some (.inl (0, 31, I 57)) := rfl
set_option maxRecDepth 100000 in
theorem mk_s57 {f : Nat → Int32} : (am_mk I L).set 57 (.inl (0, 31, f)) = am_mk (va_up I 57 f) L := rfl
theorem mk_58 : (am_mk I L)[58]? = some (.inl (0, 31, I 58)) := rfl
set_option maxRecDepth 100000 in
theorem mk_s58 {f : Nat → Int32} : (am_mk I L).set 58 (.inl (0, 31, f)) = am_mk (va_up I 58 f) L := rfl
theorem mk_59 : (am_mk I L)[59]? = some (.inl (0, 31, I 59)) := rfl
set_option maxRecDepth 100000 in
theorem mk_s59 {f : Nat → Int32} : (am_mk I L).set 59 (.inl (0, 31, f)) = am_mk (va_up I 59 f) L := rfl
theorem mk_60 : (am_mk I L)[60]? = some (.inl (0, 31, I 60)) := rfl
set_option maxRecDepth 100000 in
theorem mk_s60 {f : Nat → Int32} : (am_mk I L).set 60 (.inl (0, 31, f)) = am_mk (va_up I 60 f) L := rfl
theorem mk_61 : (am_mk I L)[61]? = some (.inl (0, 31, I 61)) := rfl
set_option maxRecDepth 100000 in
theorem mk_s61 {f : Nat → Int32} : (am_mk I L).set 61 (.inl (0, 31, f)) = am_mk (va_up I 61 f) L := rfl
theorem mk_62 : (am_mk I L)[62]? = some (.inl (0, 31, I 62)) := rfl
set_option maxRecDepth 100000 in
theorem mk_s62 {f : Nat → Int32} : (am_mk I L).set 62 (.inl (0, 31, f)) = am_mk (va_up I 62 f) L := rfl
theorem mk_63 : (am_mk I L)[63]? = some (.inl (0, 31, I 63)) := rfl
set_option maxRecDepth 100000 in
theorem mk_s63 {f : Nat → Int32} : (am_mk I L).set 63 (.inl (0, 31, f)) = am_mk (va_up I 63 f) L := rfl
theorem mk_64 : (am_mk I L)[64]? = some (.inl (0, 31, I 64)) := rfl
set_option maxRecDepth 100000 in
theorem mk_s64 {f : Nat → Int32} : (am_mk I L).set 64 (.inl (0, 31, f)) = am_mk (va_up I 64 f) L := rfl
theorem mk_65 : (am_mk I L)[65]? = some (.inl (0, 31, I 65)) := rfl
set_option maxRecDepth 100000 in
theorem mk_s65 {f : Nat → Int32} : (am_mk I L).set 65 (.inl (0, 31, f)) = am_mk (va_up I 65 f) L := rfl
theorem mk_66 : (am_mk I L)[66]? = some (.inr (.inr (.inr (8, [.int (I 66 0), .int (I 66 1), .ref 67, .ref 68, .ref 69, .ref 70, .ref 71, .ref 72, .ref 73])))) := rfl
set_option maxRecDepth 100000 in
theorem mk_p66_0 {v : Int32} : (am_mk I L).set 66 (.inr (.inr (.inr (8, [.int (I 66 0), .int (I 66 1), .ref 67, .ref 68, .ref 69, .ref 70, .ref 71, .ref 72, .ref 73].set 0 (.int v))))) = am_mk (va_up I 66 (upd (I 66) 0 v)) L := rfl
set_option maxRecDepth 100000 in
theorem mk_p66_1 {v : Int32} : (am_mk I L).set 66 (.inr (.inr (.inr (8, [.int (I 66 0), .int (I 66 1), .ref 67, .ref 68, .ref 69, .ref 70, .ref 71, .ref 72, .ref 73].set 1 (.int v))))) = am_mk (va_up I 66 (upd (I 66) 1 v)) L := rfl
theorem mk_67 : (am_mk I L)[67]? = some (.inl (0, 60, I 67)) := rfl
set_option maxRecDepth 100000 in
theorem mk_s67 {f : Nat → Int32} : (am_mk I L).set 67 (.inl (0, 60, f)) = am_mk (va_up I 67 f) L := rfl
theorem mk_68 : (am_mk I L)[68]? = some (.inl (0, 60, I 68)) := rfl
set_option maxRecDepth 100000 in
theorem mk_s68 {f : Nat → Int32} : (am_mk I L).set 68 (.inl (0, 60, f)) = am_mk (va_up I 68 f) L := rfl
theorem mk_69 : (am_mk I L)[69]? = some (.inl (0, 60, I 69)) := rfl
set_option maxRecDepth 100000 in
theorem mk_s69 {f : Nat → Int32} : (am_mk I L).set 69 (.inl (0, 60, f)) = am_mk (va_up I 69 f) L := rfl
theorem mk_70 : (am_mk I L)[70]? = some (.inl (0, 60, I 70)) := rfl
set_option maxRecDepth 100000 in
theorem mk_s70 {f : Nat → Int32} : (am_mk I L).set 70 (.inl (0, 60, f)) = am_mk (va_up I 70 f) L := rfl
theorem mk_71 : (am_mk I L)[71]? = some (.inl (0, 60, I 71)) := rfl
set_option maxRecDepth 100000 in
theorem mk_s71 {f : Nat → Int32} : (am_mk I L).set 71 (.inl (0, 60, f)) = am_mk (va_up I 71 f) L := rfl
theorem mk_72 : (am_mk I L)[72]? = some (.inl (0, 60, I 72)) := rfl
set_option maxRecDepth 100000 in
theorem mk_s72 {f : Nat → Int32} : (am_mk I L).set 72 (.inl (0, 60, f)) = am_mk (va_up I 72 f) L := rfl
theorem mk_73 : (am_mk I L)[73]? = some (.inl (0, 60, I 73)) := rfl
set_option maxRecDepth 100000 in
theorem mk_s73 {f : Nat → Int32} : (am_mk I L).set 73 (.inl (0, 60, f)) = am_mk (va_up I 73 f) L := rfl
theorem mk_74 : (am_mk I L)[74]? = some (.inr (.inr (.inr (5, [.int (I 74 0), .ref 75, .ref 76, .ref 77, .ref 66, .ref 78, .ref 81, .ref 84, .int (I 74 8)])))) := rfl
set_option maxRecDepth 100000 in
theorem mk_p74_0 {v : Int32} : (am_mk I L).set 74 (.inr (.inr (.inr (5, [.int (I 74 0), .ref 75, .ref 76, .ref 77, .ref 66, .ref 78, .ref 81, .ref 84, .int (I 74 8)].set 0 (.int v))))) = am_mk (va_up I 74 (upd (I 74) 0 v)) L := rfl
set_option maxRecDepth 100000 in
theorem mk_p74_8 {v : Int32} : (am_mk I L).set 74 (.inr (.inr (.inr (5, [.int (I 74 0), .ref 75, .ref 76, .ref 77, .ref 66, .ref 78, .ref 81, .ref 84, .int (I 74 8)].set 8 (.int v))))) = am_mk (va_up I 74 (upd (I 74) 8 v)) L := rfl
theorem mk_75 : (am_mk I L)[75]? = some (.inl (0, 20, I 75)) := rfl
set_option maxRecDepth 100000 in
theorem mk_s75 {f : Nat → Int32} : (am_mk I L).set 75 (.inl (0, 20, f)) = am_mk (va_up I 75 f) L := rfl
theorem mk_76 : (am_mk I L)[76]? = some (.inl (0, 20, I 76)) := rfl
set_option maxRecDepth 100000 in
theorem mk_s76 {f : Nat → Int32} : (am_mk I L).set 76 (.inl (0, 20, f)) = am_mk (va_up I 76 f) L := rfl
theorem mk_77 : (am_mk I L)[77]? = some (.inl (0, 20, I 77)) := rfl
set_option maxRecDepth 100000 in
theorem mk_s77 {f : Nat → Int32} : (am_mk I L).set 77 (.inl (0, 20, f)) = am_mk (va_up I 77 f) L := rfl
theorem mk_78 : (am_mk I L)[78]? = some (.inr (.inr (.inl (2, fun i => some (79 + i))))) := rfl
theorem mk_79 : (am_mk I L)[79]? = some (.inl (0, 60, I 79)) := rfl
set_option maxRecDepth 100000 in
theorem mk_s79 {f : Nat → Int32} : (am_mk I L).set 79 (.inl (0, 60, f)) = am_mk (va_up I 79 f) L := rfl
theorem mk_80 : (am_mk I L)[80]? = some (.inl (0, 60, I 80)) := rfl
set_option maxRecDepth 100000 in
theorem mk_s80 {f : Nat → Int32} : (am_mk I L).set 80 (.inl (0, 60, f)) = am_mk (va_up I 80 f) L := rfl
theorem mk_81 : (am_mk I L)[81]? = some (.inr (.inr (.inl (2, fun i => some (82 + i))))) := rfl
theorem mk_82 : (am_mk I L)[82]? = some (.inl (0, 60, I 82)) := rfl
set_option maxRecDepth 100000 in
theorem mk_s82 {f : Nat → Int32} : (am_mk I L).set 82 (.inl (0, 60, f)) = am_mk (va_up I 82 f) L := rfl
theorem mk_83 : (am_mk I L)[83]? = some (.inl (0, 60, I 83)) := rfl
set_option maxRecDepth 100000 in
theorem mk_s83 {f : Nat → Int32} : (am_mk I L).set 83 (.inl (0, 60, f)) = am_mk (va_up I 83 f) L := rfl
theorem mk_84 : (am_mk I L)[84]? = some (.inl (0, 20, I 84)) := rfl
set_option maxRecDepth 100000 in
theorem mk_s84 {f : Nat → Int32} : (am_mk I L).set 84 (.inl (0, 20, f)) = am_mk (va_up I 84 f) L := rfl
theorem mk_85 : (am_mk I L)[85]? = some (.inr (.inr (.inr (9, [.int (I 85 0), .ref 86, .ref 87, .ref 88, .ref 89, .ref 90])))) := rfl
set_option maxRecDepth 100000 in
theorem mk_p85_0 {v : Int32} : (am_mk I L).set 85 (.inr (.inr (.inr (9, [.int (I 85 0), .ref 86, .ref 87, .ref 88, .ref 89, .ref 90].set 0 (.int v))))) = am_mk (va_up I 85 (upd (I 85) 0 v)) L := rfl
theorem mk_86 : (am_mk I L)[86]? = some (.inl (0, 30, I 86)) := rfl
set_option maxRecDepth 100000 in
theorem mk_s86 {f : Nat → Int32} : (am_mk I L).set 86 (.inl (0, 30, f)) = am_mk (va_up I 86 f) L := rfl
theorem mk_87 : (am_mk I L)[87]? = some (.inl (0, 30, I 87)) := rfl
set_option maxRecDepth 100000 in
theorem mk_s87 {f : Nat → Int32} : (am_mk I L).set 87 (.inl (0, 30, f)) = am_mk (va_up I 87 f) L := rfl
theorem mk_88 : (am_mk I L)[88]? = some (.inl (0, 30, I 88)) := rfl
set_option maxRecDepth 100000 in
theorem mk_s88 {f : Nat → Int32} : (am_mk I L).set 88 (.inl (0, 30, f)) = am_mk (va_up I 88 f) L := rfl
theorem mk_89 : (am_mk I L)[89]? = some (.inl (0, 1800, I 89)) := rfl
set_option maxRecDepth 100000 in
theorem mk_s89 {f : Nat → Int32} : (am_mk I L).set 89 (.inl (0, 1800, f)) = am_mk (va_up I 89 f) L := rfl
theorem mk_90 : (am_mk I L)[90]? = some (.inr (.inl (60, L 90))) := rfl
set_option maxRecDepth 100000 in
theorem mk_s90 {f : Nat → Int64} : (am_mk I L).set 90 (.inr (.inl (60, f))) = am_mk I (va_up L 90 f) := rfl
theorem mk_91 : (am_mk I L)[91]? = some (.inr (.inr (.inr (6, [.int (I 91 0), .ref 92])))) := rfl
set_option maxRecDepth 100000 in
theorem mk_p91_0 {v : Int32} : (am_mk I L).set 91 (.inr (.inr (.inr (6, [.int (I 91 0), .ref 92].set 0 (.int v))))) = am_mk (va_up I 91 (upd (I 91) 0 v)) L := rfl
theorem mk_92 : (am_mk I L)[92]? = some (.inl (0, 60, I 92)) := rfl
set_option maxRecDepth 100000 in
theorem mk_s92 {f : Nat → Int32} : (am_mk I L).set 92 (.inl (0, 60, f)) = am_mk (va_up I 92 f) L := rfl
theorem mk_93 : (am_mk I L)[93]? = some (.inr (.inr (.inr (10, [.int (I 93 0), .ref 94, .ref 91, .int (I 93 3), .int (I 93 4)])))) := rfl
set_option maxRecDepth 100000 in
theorem mk_p93_0 {v : Int32} : (am_mk I L).set 93 (.inr (.inr (.inr (10, [.int (I 93 0), .ref 94, .ref 91, .int (I 93 3), .int (I 93 4)].set 0 (.int v))))) = am_mk (va_up I 93 (upd (I 93) 0 v)) L := rfl
set_option maxRecDepth 100000 in
theorem mk_p93_3 {v : Int32} : (am_mk I L).set 93 (.inr (.inr (.inr (10, [.int (I 93 0), .ref 94, .ref 91, .int (I 93 3), .int (I 93 4)].set 3 (.int v))))) = am_mk (va_up I 93 (upd (I 93) 3 v)) L := rfl
set_option maxRecDepth 100000 in
theorem mk_p93_4 {v : Int32} : (am_mk I L).set 93 (.inr (.inr (.inr (10, [.int (I 93 0), .ref 94, .ref 91, .int (I 93 3), .int (I 93 4)].set 4 (.int v))))) = am_mk (va_up I 93 (upd (I 93) 4 v)) L := rfl
theorem mk_94 : (am_mk I L)[94]? = some (.inl (0, 60, I 94)) := rfl
set_option maxRecDepth 100000 in
theorem mk_s94 {f : Nat → Int32} : (am_mk I L).set 94 (.inl (0, 60, f)) = am_mk (va_up I 94 f) L := rfl
theorem mk_95 : (am_mk I L)[95]? = some (.inr (.inr (.inr (6, [.int (I 95 0), .ref 96])))) := rfl
set_option maxRecDepth 100000 in
theorem mk_p95_0 {v : Int32} : (am_mk I L).set 95 (.inr (.inr (.inr (6, [.int (I 95 0), .ref 96].set 0 (.int v))))) = am_mk (va_up I 95 (upd (I 95) 0 v)) L := rfl
theorem mk_96 : (am_mk I L)[96]? = some (.inl (0, 12, I 96)) := rfl
set_option maxRecDepth 100000 in
theorem mk_s96 {f : Nat → Int32} : (am_mk I L).set 96 (.inl (0, 12, f)) = am_mk (va_up I 96 f) L := rfl
theorem mk_97 : (am_mk I L)[97]? = some (.inr (.inr (.inr (6, [.int (I 97 0), .ref 98])))) := rfl
set_option maxRecDepth 100000 in
theorem mk_p97_0 {v : Int32} : (am_mk I L).set 97 (.inr (.inr (.inr (6, [.int (I 97 0), .ref 98].set 0 (.int v))))) = am_mk (va_up I 97 (upd (I 97) 0 v)) L := rfl
theorem mk_98 : (am_mk I L)[98]? = some (.inl (0, 6, I 98)) := rfl
set_option maxRecDepth 100000 in
theorem mk_s98 {f : Nat → Int32} : (am_mk I L).set 98 (.inl (0, 6, f)) = am_mk (va_up I 98 f) L := rfl
theorem mk_99 : (am_mk I L)[99]? = some (.inr (.inr (.inr (7, [.ref 2, .ref 16, .ref 42, .ref 66, .ref 74, .ref 85, .ref 100, .ref 101, .int (I 99 8)])))) := rfl
set_option maxRecDepth 100000 in
theorem mk_p99_8 {v : Int32} : (am_mk I L).set 99 (.inr (.inr (.inr (7, [.ref 2, .ref 16, .ref 42, .ref 66, .ref 74, .ref 85, .ref 100, .ref 101, .int (I 99 8)].set 8 (.int v))))) = am_mk (va_up I 99 (upd (I 99) 8 v)) L := rfl
theorem mk_100 : (am_mk I L)[100]? = some (.inl (0, 10, I 100)) := rfl
set_option maxRecDepth 100000 in
theorem mk_s100 {f : Nat → Int32} : (am_mk I L).set 100 (.inl (0, 10, f)) = am_mk (va_up I 100 f) L := rfl
theorem mk_101 : (am_mk I L)[101]? = some (.inl (0, 120, I 101)) := rfl
set_option maxRecDepth 100000 in
theorem mk_s101 {f : Nat → Int32} : (am_mk I L).set 101 (.inl (0, 120, f)) = am_mk (va_up I 101 f) L := rfl
theorem mk_102 : (am_mk I L)[102]? = some (.inr (.inr (.inr (1, [.int (I 102 0), .int (I 102 1), .ref 66, .ref 99, .ref 103, .ref 104, .ref 105, .int (I 102 7)])))) := rfl
set_option maxRecDepth 100000 in
theorem mk_p102_0 {v : Int32} : (am_mk I L).set 102 (.inr (.inr (.inr (1, [.int (I 102 0), .int (I 102 1), .ref 66, .ref 99, .ref 103, .ref 104, .ref 105, .int (I 102 7)].set 0 (.int v))))) = am_mk (va_up I 102 (upd (I 102) 0 v)) L := rfl
set_option maxRecDepth 100000 in
theorem mk_p102_1 {v : Int32} : (am_mk I L).set 102 (.inr (.inr (.inr (1, [.int (I 102 0), .int (I 102 1), .ref 66, .ref 99, .ref 103, .ref 104, .ref 105, .int (I 102 7)].set 1 (.int v))))) = am_mk (va_up I 102 (upd (I 102) 1 v)) L := rfl
set_option maxRecDepth 100000 in
theorem mk_p102_7 {v : Int32} : (am_mk I L).set 102 (.inr (.inr (.inr (1, [.int (I 102 0), .int (I 102 1), .ref 66, .ref 99, .ref 103, .ref 104, .ref 105, .int (I 102 7)].set 7 (.int v))))) = am_mk (va_up I 102 (upd (I 102) 7 v)) L := rfl
theorem mk_103 : (am_mk I L)[103]? = some (.inl (0, 10, I 103)) := rfl
set_option maxRecDepth 100000 in
theorem mk_s103 {f : Nat → Int32} : (am_mk I L).set 103 (.inl (0, 10, f)) = am_mk (va_up I 103 f) L := rfl
theorem mk_104 : (am_mk I L)[104]? = some (.inl (0, 10, I 104)) := rfl
set_option maxRecDepth 100000 in
theorem mk_s104 {f : Nat → Int32} : (am_mk I L).set 104 (.inl (0, 10, f)) = am_mk (va_up I 104 f) L := rfl
theorem mk_105 : (am_mk I L)[105]? = some (.inl (0, 11, I 105)) := rfl
set_option maxRecDepth 100000 in
theorem mk_s105 {f : Nat → Int32} : (am_mk I L).set 105 (.inl (0, 11, f)) = am_mk (va_up I 105 f) L := rfl
theorem mk_106 : (am_mk I L)[106]? = some (.inr (.inr (.inr (4, [.ref 107, .int (I 106 1), .int (I 106 2), .ref 16, .ref 66, .ref 74, .ref 99, .ref 108, .ref 109, .int (I 106 9), .ref 110, .ref 111, .ref 112])))) := rfl
set_option maxRecDepth 100000 in
theorem mk_p106_1 {v : Int32} : (am_mk I L).set 106 (.inr (.inr (.inr (4, [.ref 107, .int (I 106 1), .int (I 106 2), .ref 16, .ref 66, .ref 74, .ref 99, .ref 108, .ref 109, .int (I 106 9), .ref 110, .ref 111, .ref 112].set 1 (.int v))))) = am_mk (va_up I 106 (upd (I 106) 1 v)) L := rfl
set_option maxRecDepth 100000 in
theorem mk_p106_2 {v : Int32} : (am_mk I L).set 106 (.inr (.inr (.inr (4, [.ref 107, .int (I 106 1), .int (I 106 2), .ref 16, .ref 66, .ref 74, .ref 99, .ref 108, .ref 109, .int (I 106 9), .ref 110, .ref 111, .ref 112].set 2 (.int v))))) = am_mk (va_up I 106 (upd (I 106) 2 v)) L := rfl
set_option maxRecDepth 100000 in
theorem mk_p106_9 {v : Int32} : (am_mk I L).set 106 (.inr (.inr (.inr (4, [.ref 107, .int (I 106 1), .int (I 106 2), .ref 16, .ref 66, .ref 74, .ref 99, .ref 108, .ref 109, .int (I 106 9), .ref 110, .ref 111, .ref 112].set 9 (.int v))))) = am_mk (va_up I 106 (upd (I 106) 9 v)) L := rfl
theorem mk_107 : (am_mk I L)[107]? = some (.inl (0, 6, I 107)) := rfl
set_option maxRecDepth 100000 in
theorem mk_s107 {f : Nat → Int32} : (am_mk I L).set 107 (.inl (0, 6, f)) = am_mk (va_up I 107 f) L := rfl
theorem mk_108 : (am_mk I L)[108]? = some (.inl (0, 6, I 108)) := rfl
set_option maxRecDepth 100000 in
theorem mk_s108 {f : Nat → Int32} : (am_mk I L).set 108 (.inl (0, 6, f)) = am_mk (va_up I 108 f) L := rfl
theorem mk_109 : (am_mk I L)[109]? = some (.inl (0, 6, I 109)) := rfl
set_option maxRecDepth 100000 in
theorem mk_s109 {f : Nat → Int32} : (am_mk I L).set 109 (.inl (0, 6, f)) = am_mk (va_up I 109 f) L := rfl
theorem mk_110 : (am_mk I L)[110]? = some (.inl (0, 20, I 110)) := rfl
set_option maxRecDepth 100000 in
theorem mk_s110 {f : Nat → Int32} : (am_mk I L).set 110 (.inl (0, 20, f)) = am_mk (va_up I 110 f) L := rfl
theorem mk_111 : (am_mk I L)[111]? = some (.inl (0, 6, I 111)) := rfl
set_option maxRecDepth 100000 in
theorem mk_s111 {f : Nat → Int32} : (am_mk I L).set 111 (.inl (0, 6, f)) = am_mk (va_up I 111 f) L := rfl
theorem mk_112 : (am_mk I L)[112]? = some (.inr (.inl (64, L 112))) := rfl
set_option maxRecDepth 100000 in
theorem mk_s112 {f : Nat → Int64} : (am_mk I L).set 112 (.inr (.inl (64, f))) = am_mk I (va_up L 112 f) := rfl
theorem mk_113 : (am_mk I L)[113]? = some (.inr (.inr (.inr (12, [.int (I 113 0), .ref 114, .ref 115, .ref 116, .int (I 113 4), .ref 117, .ref 118, .ref 119, .ref 120, .ref 121, .int (I 113 10), .ref 122, .ref 123, .ref 124, .int (I 113 14), .ref 125, .ref 126, .ref 127, .ref 128, .ref 129, .ref 130, .ref 131, .ref 132, .ref 133, .int (I 113 24), .int (I 113 25), .ref 134, .ref 135, .ref 136, .ref 137, .ref 138, .ref 139, .ref 140, .ref 141, .ref 142, .ref 143, .ref 144, .ref 145, .ref 146, .int (I 113 39), .ref 147, .int (I 113 41), .ref 148, .ref 149, .ref 150, .ref 151, .ref 152, .ref 153, .ref 154, .ref 155, .int (I 113 50), .int (I 113 51), .ref 156])))) := rfl
set_option maxRecDepth 100000 in
theorem mk_p113_0 {v : Int32} : (am_mk I L).set 113 (.inr (.inr (.inr (12, [.int (I 113 0), .ref 114, .ref 115, .ref 116, .int (I 113 4), .ref 117, .ref 118, .ref 119, .ref 120, .ref 121, .int (I 113 10), .ref 122, .ref 123, .ref 124, .int (I 113 14), .ref 125, .ref 126, .ref 127, .ref 128, .ref 129, .ref 130, .ref 131, .ref 132, .ref 133, .int (I 113 24), .int (I 113 25), .ref 134, .ref 135, .ref 136, .ref 137, .ref 138, .ref 139, .ref 140, .ref 141, .ref 142, .ref 143, .ref 144, .ref 145, .ref 146, .int (I 113 39), .ref 147, .int (I 113 41), .ref 148, .ref 149, .ref 150, .ref 151, .ref 152, .ref 153, .ref 154, .ref 155, .int (I 113 50), .int (I 113 51), .ref 156].set 0 (.int v))))) = am_mk (va_up I 113 (upd (I 113) 0 v)) L := rfl
set_option maxRecDepth 100000 in
theorem mk_p113_4 {v : Int32} : (am_mk I L).set 113 (.inr (.inr (.inr (12, [.int (I 113 0), .ref 114, .ref 115, .ref 116, .int (I 113 4), .ref 117, .ref 118, .ref 119, .ref 120, .ref 121, .int (I 113 10), .ref 122, .ref 123, .ref 124, .int (I 113 14), .ref 125, .ref 126, .ref 127, .ref 128, .ref 129, .ref 130, .ref 131, .ref 132, .ref 133, .int (I 113 24), .int (I 113 25), .ref 134, .ref 135, .ref 136, .ref 137, .ref 138, .ref 139, .ref 140, .ref 141, .ref 142, .ref 143, .ref 144, .ref 145, .ref 146, .int (I 113 39), .ref 147, .int (I 113 41), .ref 148, .ref 149, .ref 150, .ref 151, .ref 152, .ref 153, .ref 154, .ref 155, .int (I 113 50), .int (I 113 51), .ref 156].set 4 (.int v))))) = am_mk (va_up I 113 (upd (I 113) 4 v)) L := rfl
set_option maxRecDepth 100000 in
theorem mk_p113_10 {v : Int32} : (am_mk I L).set 113 (.inr (.inr (.inr (12, [.int (I 113 0), .ref 114, .ref 115, .ref 116, .int (I 113 4), .ref 117, .ref 118, .ref 119, .ref 120, .ref 121, .int (I 113 10), .ref 122, .ref 123, .ref 124, .int (I 113 14), .ref 125, .ref 126, .ref 127, .ref 128, .ref 129, .ref 130, .ref 131, .ref 132, .ref 133, .int (I 113 24), .int (I 113 25), .ref 134, .ref 135, .ref 136, .ref 137, .ref 138, .ref 139, .ref 140, .ref 141, .ref 142, .ref 143, .ref 144, .ref 145, .ref 146, .int (I 113 39), .ref 147, .int (I 113 41), .ref 148, .ref 149, .ref 150, .ref 151, .ref 152, .ref 153, .ref 154, .ref 155, .int (I 113 50), .int (I 113 51), .ref 156].set 10 (.int v))))) = am_mk (va_up I 113 (upd (I 113) 10 v)) L := rfl
set_option maxRecDepth 100000 in
theorem mk_p113_14 {v : Int32} : (am_mk I L).set 113 (.inr (.inr (.inr (12, [.int (I 113 0), .ref 114, .ref 115, .ref 116, .int (I 113 4), .ref 117, .ref 118, .ref 119, .ref 120, .ref 121, .int (I 113 10), .ref 122, .ref 123, .ref 124, .int (I 113 14), .ref 125, .ref 126, .ref 127, .ref 128, .ref 129, .ref 130, .ref 131, .ref 132, .ref 133, .int (I 113 24), .int (I 113 25), .ref 134, .ref 135, .ref 136, .ref 137, .ref 138, .ref 139, .ref 140, .ref 141, .ref 142, .ref 143, .ref 144, .ref 145, .ref 146, .int (I 113 39), .ref 147, .int (I 113 41), .ref 148, .ref 149, .ref 150, .ref 151, .ref 152, .ref 153, .ref 154, .ref 155, .int (I 113 50), .int (I 113 51), .ref 156].set 14 (.int v))))) = am_mk (va_up I 113 (upd (I 113) 14 v)) L := rfl
set_option maxRecDepth 100000 in
theorem mk_p113_24 {v : Int32} : (am_mk I L).set 113 (.inr (.inr (.inr (12, [.int (I 113 0), .ref 114, .ref 115, .ref 116, .int (I 113 4), .ref 117, .ref 118, .ref 119, .ref 120, .ref 121, .int (I 113 10), .ref 122, .ref 123, .ref 124, .int (I 113 14), .ref 125, .ref 126, .ref 127, .ref 128, .ref 129, .ref 130, .ref 131, .ref 132, .ref 133, .int (I 113 24), .int (I 113 25), .ref 134, .ref 135, .ref 136, .ref 137, .ref 138, .ref 139, .ref 140, .ref 141, .ref 142, .ref 143, .ref 144, .ref 145, .ref 146, .int (I 113 39), .ref 147, .int (I 113 41), .ref 148, .ref 149, .ref 150, .ref 151, .ref 152, .ref 153, .ref 154, .ref 155, .int (I 113 50), .int (I 113 51), .ref 156].set 24 (.int v))))) = am_mk (va_up I 113 (upd (I 113) 24 v)) L := rfl
set_option maxRecDepth 100000 in
theorem mk_p113_25 {v : Int32} : (am_mk I L).set 113 (.inr (.inr (.inr (12, [.int (I 113 0), .ref 114, .ref 115, .ref 116, .int (I 113 4), .ref 117, .ref 118, .ref 119, .ref 120, .ref 121, .int (I 113 10), .ref 122, .ref 123, .ref 124, .int (I 113 14), .ref 125, .ref 126, .ref 127, .ref 128, .ref 129, .ref 130, .ref 131, .ref 132, .ref 133, .int (I 113 24), .int (I 113 25), .ref 134, .ref 135, .ref 136, .ref 137, .ref 138, .ref 139, .ref 140, .ref 141, .ref 142, .ref 143, .ref 144, .ref 145, .ref 146, .int (I 113 39), .ref 147, .int (I 113 41), .ref 148, .ref 149, .ref 150, .ref 151, .ref 152, .ref 153, .ref 154, .ref 155, .int (I 113 50), .int (I 113 51), .ref 156].set 25 (.int v))))) = am_mk (va_up I 113 (upd (I 113) 25 v)) L := rfl
set_option maxRecDepth 100000 in
theorem mk_p113_39 {v : Int32} : (am_mk I L).set 113 (.inr (.inr (.inr (12, [.int (I 113 0), .ref 114, .ref 115, .ref 116, .int (I 113 4), .ref 117, .ref 118, .ref 119, .ref 120, .ref 121, .int (I 113 10), .ref 122, .ref 123, .ref 124, .int (I 113 14), .ref 125, .ref 126, .ref 127, .ref 128, .ref 129, .ref 130, .ref 131, .ref 132, .ref 133, .int (I 113 24), .int (I 113 25), .ref 134, .ref 135, .ref 136, .ref 137, .ref 138, .ref 139, .ref 140, .ref 141, .ref 142, .ref 143, .ref 144, .ref 145, .ref 146, .int (I 113 39), .ref 147, .int (I 113 41), .ref 148, .ref 149, .ref 150, .ref 151, .ref 152, .ref 153, .ref 154, .ref 155, .int (I 113 50), .int (I 113 51), .ref 156].set 39 (.int v))))) = am_mk (va_up I 113 (upd (I 113) 39 v)) L := rfl
set_option maxRecDepth 100000 in
theorem mk_p113_41 {v : Int32} : (am_mk I L).set 113 (.inr (.inr (.inr (12, [.int (I 113 0), .ref 114, .ref 115, .ref 116, .int (I 113 4), .ref 117, .ref 118, .ref 119, .ref 120, .ref 121, .int (I 113 10), .ref 122, .ref 123, .ref 124, .int (I 113 14), .ref 125, .ref 126, .ref 127, .ref 128, .ref 129, .ref 130, .ref 131, .ref 132, .ref 133, .int (I 113 24), .int (I 113 25), .ref 134, .ref 135, .ref 136, .ref 137, .ref 138, .ref 139, .ref 140, .ref 141, .ref 142, .ref 143, .ref 144, .ref 145, .ref 146, .int (I 113 39), .ref 147, .int (I 113 41), .ref 148, .ref 149, .ref 150, .ref 151, .ref 152, .ref 153, .ref 154, .ref 155, .int (I 113 50), .int (I 113 51), .ref 156].set 41 (.int v))))) = am_mk (va_up I 113 (upd (I 113) 41 v)) L := rfl
set_option maxRecDepth 100000 in
theorem mk_p113_50 {v : Int32} : (am_mk I L).set 113 (.inr (.inr (.inr (12, [.int (I 113 0), .ref 114, .ref 115, .ref 116, .int (I 113 4), .ref 117, .ref 118, .ref 119, .ref 120, .ref 121, .int (I 113 10), .ref 122, .ref 123, .ref 124, .int (I 113 14), .ref 125, .ref 126, .ref 127, .ref 128, .ref 129, .ref 130, .ref 131, .ref 132, .ref 133, .int (I 113 24), .int (I 113 25), .ref 134, .ref 135, .ref 136, .ref 137, .ref 138, .ref 139, .ref 140, .ref 141, .ref 142, .ref 143, .ref 144, .ref 145, .ref 146, .int (I 113 39), .ref 147, .int (I 113 41), .ref 148, .ref 149, .ref 150, .ref 151, .ref 152, .ref 153, .ref 154, .ref 155, .int (I 113 50), .int (I 113 51), .ref 156].set 50 (.int v))))) = am_mk (va_up I 113 (upd (I 113) 50 v)) L := rfl
set_option maxRecDepth 100000 in
theorem mk_p113_51 {v : Int32} : (am_mk I L).set 113 (.inr (.inr (.inr (12, [.int (I 113 0), .ref 114, .ref 115, .ref 116, .int (I 113 4), .ref 117, .ref 118, .ref 119, .ref 120, .ref 121, .int (I 113 10), .ref 122, .ref 123, .ref 124, .int (I 113 14), .ref 125, .ref 126, .ref 127, .ref 128, .ref 129, .ref 130, .ref 131, .ref 132, .ref 133, .int (I 113 24), .int (I 113 25), .ref 134, .ref 135, .ref 136, .ref 137, .ref 138, .ref 139, .ref 140, .ref 141, .ref 142, .ref 143, .ref 144, .ref 145, .ref 146, .int (I 113 39), .ref 147, .int (I 113 41), .ref 148, .ref 149, .ref 150, .ref 151, .ref 152, .ref 153, .ref 154, .ref 155, .int (I 113 50), .int (I 113 51), .ref 156].set 51 (.int v))))) = am_mk (va_up I 113 (upd (I 113) 51 v)) L := rfl
theorem mk_114 : (am_mk I L)[114]? = some (.inl (0, 10, I 114)) := rfl
set_option maxRecDepth 100000 in
theorem mk_s114 {f : Nat → Int32} : (am_mk I L).set 114 (.inl (0, 10, f)) = am_mk (va_up I 114 f) L := rfl
theorem mk_115 : (am_mk I L)[115]? = some (.inl (0, 100, I 115)) := rfl
set_option maxRecDepth 100000 in
theorem mk_s115 {f : Nat → Int32} : (am_mk I L).set 115 (.inl (0, 100, f)) = am_mk (va_up I 115 f) L := rfl
theorem mk_116 : (am_mk I L)[116]? = some (.inl (0, 5, I 116)) := rfl
set_option maxRecDepth 100000 in
theorem mk_s116 {f : Nat → Int32} : (am_mk I L).set 116 (.inl (0, 5, f)) = am_mk (va_up I 116 f) L := rfl
theorem mk_117 : (am_mk I L)[117]? = some (.inl (0, 20, I 117)) := rfl
set_option maxRecDepth 100000 in
theorem mk_s117 {f : Nat → Int32} : (am_mk I L).set 117 (.inl (0, 20, f)) = am_mk (va_up I 117 f) L := rfl
theorem mk_118 : (am_mk I L)[118]? = some (.inl (0, 20, I 118)) := rfl
set_option maxRecDepth 100000 in
theorem mk_s118 {f : Nat → Int32} : (am_mk I L).set 118 (.inl (0, 20, f)) = am_mk (va_up I 118 f) L := rfl
theorem mk_119 : (am_mk I L)[119]? = some (.inl (0, 20, I 119)) := rfl
set_option maxRecDepth 100000 in
theorem mk_s119 {f : Nat → Int32} : (am_mk I L).set 119 (.inl (0, 20, f)) = am_mk (va_up I 119 f) L := rfl
theorem mk_120 : (am_mk I L)[120]? = some (.inl (0, 20, I 120)) := rfl
set_option maxRecDepth 100000 in
theorem mk_s120 {f : Nat → Int32} : (am_mk I L).set 120 (.inl (0, 20, f)) = am_mk (va_up I 120 f) L := rfl
theorem mk_121 : (am_mk I L)[121]? = some (.inl (0, 100, I 121)) := rfl
set_option maxRecDepth 100000 in
theorem mk_s121 {f : Nat → Int32} : (am_mk I L).set 121 (.inl (0, 100, f)) = am_mk (va_up I 121 f) L := rfl
theorem mk_122 : (am_mk I L)[122]? = some (.inl (0, 20, I 122)) := rfl
set_option maxRecDepth 100000 in
theorem mk_s122 {f : Nat → Int32} : (am_mk I L).set 122 (.inl (0, 20, f)) = am_mk (va_up I 122 f) L := rfl
theorem mk_123 : (am_mk I L)[123]? = some (.inl (0, 20, I 123)) := rfl
set_option maxRecDepth 100000 in
theorem mk_s123 {f : Nat → Int32} : (am_mk I L).set 123 (.inl (0, 20, f)) = am_mk (va_up I 123 f) L := rfl
theorem mk_124 : (am_mk I L)[124]? = some (.inl (0, 620, I 124)) := rfl
set_option maxRecDepth 100000 in
theorem mk_s124 {f : Nat → Int32} : (am_mk I L).set 124 (.inl (0, 620, f)) = am_mk (va_up I 124 f) L := rfl
theorem mk_125 : (am_mk I L)[125]? = some (.inl (0, 60, I 125)) := rfl
set_option maxRecDepth 100000 in
theorem mk_s125 {f : Nat → Int32} : (am_mk I L).set 125 (.inl (0, 60, f)) = am_mk (va_up I 125 f) L := rfl
theorem mk_126 : (am_mk I L)[126]? = some (.inl (0, 60, I 126)) := rfl
set_option maxRecDepth 100000 in
theorem mk_s126 {f : Nat → Int32} : (am_mk I L).set 126 (.inl (0, 60, f)) = am_mk (va_up I 126 f) L := rfl
theorem mk_127 : (am_mk I L)[127]? = some (.inl (0, 60, I 127)) := rfl
set_option maxRecDepth 100000 in
theorem mk_s127 {f : Nat → Int32} : (am_mk I L).set 127 (.inl (0, 60, f)) = am_mk (va_up I 127 f) L := rfl
theorem mk_128 : (am_mk I L)[128]? = some (.inl (0, 60, I 128)) := rfl
set_option maxRecDepth 100000 in
theorem mk_s128 {f : Nat → Int32} : (am_mk I L).set 128 (.inl (0, 60, f)) = am_mk (va_up I 128 f) L := rfl
theorem mk_129 : (am_mk I L)[129]? = some (.inl (0, 60, I 129)) := rfl
set_option maxRecDepth 100000 in
theorem mk_s129 {f : Nat → Int32} : (am_mk I L).set 129 (.inl (0, 60, f)) = am_mk (va_up I 129 f) L := rfl
theorem mk_130 : (am_mk I L)[130]? = some (.inl (0, 120, I 130)) := rfl
set_option maxRecDepth 100000 in
theorem mk_s130 {f : Nat → Int32} : (am_mk I L).set 130 (.inl (0, 120, f)) = am_mk (va_up I 130 f) L := rfl
theorem mk_131 : (am_mk I L)[131]? = some (.inl (0, 120, I 131)) := rfl
set_option maxRecDepth 100000 in
theorem mk_s131 {f : Nat → Int32} : (am_mk I L).set 131 (.inl (0, 120, f)) = am_mk (va_up I 131 f) L := rfl
theorem mk_132 : (am_mk I L)[132]? = some (.inl (0, 120, I 132)) := rfl
set_option maxRecDepth 100000 in
theorem mk_s132 {f : Nat → Int32} : (am_mk I L).set 132 (.inl (0, 120, f)) = am_mk (va_up I 132 f) L := rfl
theorem mk_133 : (am_mk I L)[133]? = some (.inl (1, 60, I 133)) := rfl
set_option maxRecDepth 100000 in
theorem mk_s133 {f : Nat → Int32} : (am_mk I L).set 133 (.inl (1, 60, f)) = am_mk (va_up I 133 f) L := rfl
theorem mk_134 : (am_mk I L)[134]? = some (.inl (0, 30, I 134)) := rfl
set_option maxRecDepth 100000 in
theorem mk_s134 {f : Nat → Int32} : (am_mk I L).set 134 (.inl (0, 30, f)) = am_mk (va_up I 134 f) L := rfl
theorem mk_135 : (am_mk I L)[135]? = some (.inl (0, 30, I 135)) := rfl
set_option maxRecDepth 100000 in
theorem mk_s135 {f : Nat → Int32} : (am_mk I L).set 135 (.inl (0, 30, f)) = am_mk (va_up I 135 f) L := rfl
theorem mk_136 : (am_mk I L)[136]? = some (.inl (0, 30, I 136)) := rfl
set_option maxRecDepth 100000 in
theorem mk_s136 {f : Nat → Int32} : (am_mk I L).set 136 (.inl (0, 30, f)) = am_mk (va_up I 136 f) L := rfl
theorem mk_137 : (am_mk I L)[137]? = some (.inl (1, 1800, I 137)) := rfl
set_option maxRecDepth 100000 in
theorem mk_s137 {f : Nat → Int32} : (am_mk I L).set 137 (.inl (1, 1800, f)) = am_mk (va_up I 137 f) L := rfl
theorem mk_138 : (am_mk I L)[138]? = some (.inl (2, 7, I 138)) := rfl
set_option maxRecDepth 100000 in
theorem mk_s138 {f : Nat → Int32} : (am_mk I L).set 138 (.inl (2, 7, f)) = am_mk (va_up I 138 f) L := rfl
theorem mk_139 : (am_mk I L)[139]? = some (.inr (.inl (7, L 139))) := rfl
set_option maxRecDepth 100000 in
theorem mk_s139 {f : Nat → Int64} : (am_mk I L).set 139 (.inr (.inl (7, f))) = am_mk I (va_up L 139 f) := rfl
theorem mk_140 : (am_mk I L)[140]? = some (.inl (0, 7, I 140)) := rfl
set_option maxRecDepth 100000 in
theorem mk_s140 {f : Nat → Int32} : (am_mk I L).set 140 (.inl (0, 7, f)) = am_mk (va_up I 140 f) L := rfl
theorem mk_141 : (am_mk I L)[141]? = some (.inr (.inl (7, L 141))) := rfl
set_option maxRecDepth 100000 in
theorem mk_s141 {f : Nat → Int64} : (am_mk I L).set 141 (.inr (.inl (7, f))) = am_mk I (va_up L 141 f) := rfl
theorem mk_142 : (am_mk I L)[142]? = some (.inl (0, 7, I 142)) := rfl
set_option maxRecDepth 100000 in
theorem mk_s142 {f : Nat → Int32} : (am_mk I L).set 142 (.inl (0, 7, f)) = am_mk (va_up I 142 f) L := rfl
theorem mk_143 : (am_mk I L)[143]? = some (.inl (0, 7, I 143)) := rfl
set_option maxRecDepth 100000 in
theorem mk_s143 {f : Nat → Int32} : (am_mk I L).set 143 (.inl (0, 7, f)) = am_mk (va_up I 143 f) L := rfl
theorem mk_144 : (am_mk I L)[144]? = some (.inr (.inl (7, L 144))) := rfl
set_option maxRecDepth 100000 in
theorem mk_s144 {f : Nat → Int64} : (am_mk I L).set 144 (.inr (.inl (7, f))) = am_mk I (va_up L 144 f) := rfl
theorem mk_145 : (am_mk I L)[145]? = some (.inl (2, 1501, I 145)) := rfl
set_option maxRecDepth 100000 in
theorem mk_s145 {f : Nat → Int32} : (am_mk I L).set 145 (.inl (2, 1501, f)) = am_mk (va_up I 145 f) L := rfl
theorem mk_146 : (am_mk I L)[146]? = some (.inl (0, 12, I 146)) := rfl
set_option maxRecDepth 100000 in
theorem mk_s146 {f : Nat → Int32} : (am_mk I L).set 146 (.inl (0, 12, f)) = am_mk (va_up I 146 f) L := rfl
theorem mk_147 : (am_mk I L)[147]? = some (.inl (0, 6, I 147)) := rfl
set_option maxRecDepth 100000 in
theorem mk_s147 {f : Nat → Int32} : (am_mk I L).set 147 (.inl (0, 6, f)) = am_mk (va_up I 147 f) L := rfl
theorem mk_148 : (am_mk I L)[148]? = some (.inl (0, 10, I 148)) := rfl
set_option maxRecDepth 100000 in
theorem mk_s148 {f : Nat → Int32} : (am_mk I L).set 148 (.inl (0, 10, f)) = am_mk (va_up I 148 f) L := rfl
theorem mk_149 : (am_mk I L)[149]? = some (.inl (0, 6, I 149)) := rfl
set_option maxRecDepth 100000 in
theorem mk_s149 {f : Nat → Int32} : (am_mk I L).set 149 (.inl (0, 6, f)) = am_mk (va_up I 149 f) L := rfl
theorem mk_150 : (am_mk I L)[150]? = some (.inl (0, 20, I 150)) := rfl
set_option maxRecDepth 100000 in
theorem mk_s150 {f : Nat → Int32} : (am_mk I L).set 150 (.inl (0, 20, f)) = am_mk (va_up I 150 f) L := rfl
theorem mk_151 : (am_mk I L)[151]? = some (.inl (0, 64, I 151)) := rfl
set_option maxRecDepth 100000 in
theorem mk_s151 {f : Nat → Int32} : (am_mk I L).set 151 (.inl (0, 64, f)) = am_mk (va_up I 151 f) L := rfl
theorem mk_152 : (am_mk I L)[152]? = some (.inl (0, 64, I 152)) := rfl
set_option maxRecDepth 100000 in
theorem mk_s152 {f : Nat → Int32} : (am_mk I L).set 152 (.inl (0, 64, f)) = am_mk (va_up I 152 f) L := rfl
theorem mk_153 : (am_mk I L)[153]? = some (.inl (0, 20, I 153)) := rfl
set_option maxRecDepth 100000 in
theorem mk_s153 {f : Nat → Int32} : (am_mk I L).set 153 (.inl (0, 20, f)) = am_mk (va_up I 153 f) L := rfl
theorem mk_154 : (am_mk I L)[154]? = some (.inl (0, 120, I 154)) := rfl
set_option maxRecDepth 100000 in
theorem mk_s154 {f : Nat → Int32} : (am_mk I L).set 154 (.inl (0, 120, f)) = am_mk (va_up I 154 f) L := rfl
theorem mk_155 : (am_mk I L)[155]? = some (.inl (0, 6, I 155)) := rfl
set_option maxRecDepth 100000 in
theorem mk_s155 {f : Nat → Int32} : (am_mk I L).set 155 (.inl (0, 6, f)) = am_mk (va_up I 155 f) L := rfl
theorem mk_156 : (am_mk I L)[156]? = some (.inl (0, 7, I 156)) := rfl
set_option maxRecDepth 100000 in
theorem mk_s156 {f : Nat → Int32} : (am_mk I L).set 156 (.inl (0, 7, f)) = am_mk (va_up I 156 f) L := rfl
theorem mk_g5 {a : Nat} (h : a < 10) : (am_mk I L)[6 + a]? = some (.inl (0, 10, I (6 + a))) := by
  match a, h with
  | 0, _ => rfl
  | 1, _ => rfl
  | 2, _ => rfl
  | 3, _ => rfl
  | 4, _ => rfl
  | 5, _ => rfl
  | 6, _ => rfl
  | 7, _ => rfl
  | 8, _ => rfl
  | 9, _ => rfl
  | a + 10, h => exact absurd h (by omega)
set_option maxRecDepth 100000 in
theorem mk_gs5 {a : Nat} {f : Nat → Int32} (h : a < 10) : (am_mk I L).set (6 + a) (.inl (0, 10, f)) = am_mk (va_up I (6 + a) f) L := by
  match a, h with
  | 0, _ => rfl
  | 1, _ => rfl
  | 2, _ => rfl
  | 3, _ => rfl
  | 4, _ => rfl
  | 5, _ => rfl
  | 6, _ => rfl
  | 7, _ => rfl
  | 8, _ => rfl
  | 9, _ => rfl
  | a + 10, h => exact absurd h (by omega)
theorem mk_g21 {a : Nat} (h : a < 20) : (am_mk I L)[22 + a]? = some (.inl (0, 5, I (22 + a))) := by
  match a, h with
  | 0, _ => rfl
  | 1, _ => rfl
  | 2, _ => rfl
  | 3, _ => rfl
  | 4, _ => rfl
  | 5, _ => rfl
  | 6, _ => rfl
  | 7, _ => rfl
  | 8, _ => rfl
  | 9, _ => rfl
  | 10, _ => rfl
  | 11, _ => rfl
  | 12, _ => rfl
  | 13, _ => rfl
  | 14, _ => rfl
  | 15, _ => rfl
  | 16, _ => rfl
  | 17, _ => rfl
  | 18, _ => rfl
  | 19, _ => rfl
  | a + 20, h => exact absurd h (by omega)
set_option maxRecDepth 100000 in
theorem mk_gs21 {a : Nat} {f : Nat → Int32} (h : a < 20) : (am_mk I L).set (22 + a) (.inl (0, 5, f)) = am_mk (va_up I (22 + a) f) L := by
  match a, h with
  | 0, _ => rfl
  | 1, _ => rfl
  | 2, _ => rfl
  | 3, _ => rfl
  | 4, _ => rfl
  | 5, _ => rfl
  | 6, _ => rfl
  | 7, _ => rfl
  | 8, _ => rfl
  | 9, _ => rfl
  | 10, _ => rfl
  | 11, _ => rfl
  | 12, _ => rfl
  | 13, _ => rfl
  | 14, _ => rfl
  | 15, _ => rfl
  | 16, _ => rfl
  | 17, _ => rfl
  | 18, _ => rfl
  | 19, _ => rfl
  | a + 20, h => exact absurd h (by omega)
theorem mk_g45 {a : Nat} (h : a < 20) : (am_mk I L)[46 + a]? = some (.inl (0, 31, I (46 + a))) := by
  match a, h with
  | 0, _ => rfl
  | 1, _ => rfl
  | 2, _ => rfl
  | 3, _ => rfl
  | 4, _ => rfl
  | 5, _ => rfl
  | 6, _ => rfl
  | 7, _ => rfl
  | 8, _ => rfl
  | 9, _ => rfl
  | 10, _ => rfl
  | 11, _ => rfl
  | 12, _ => rfl
  | 13, _ => rfl
  | 14, _ => rfl
  | 15, _ => rfl
  | 16, _ => rfl
  | 17, _ => rfl
  | 18, _ => rfl
  | 19, _ => rfl
  | a + 20, h => exact absurd h (by omega)
set_option maxRecDepth 100000 in
theorem mk_gs45 {a : Nat} {f : Nat → Int32} (h : a < 20) : (am_mk I L).set (46 + a) (.inl (0, 31, f)) = am_mk (va_up I (46 + a) f) L := by
  match a, h with
  | 0, _ => rfl
  | 1, _ => rfl
  | 2, _ => rfl
  | 3, _ => rfl
  | 4, _ => rfl
  | 5, _ => rfl
  | 6, _ => rfl
  | 7, _ => rfl
  | 8, _ => rfl
  | 9, _ => rfl
  | 10, _ => rfl
  | 11, _ => rfl
  | 12, _ => rfl
  | 13, _ => rfl
  | 14, _ => rfl
  | 15, _ => rfl
  | 16, _ => rfl
  | 17, _ => rfl
  | 18, _ => rfl
  | 19, _ => rfl
  | a + 20, h => exact absurd h (by omega)
theorem mk_g78 {a : Nat} (h : a < 2) : (am_mk I L)[79 + a]? = some (.inl (0, 60, I (79 + a))) := by
  match a, h with
  | 0, _ => rfl
  | 1, _ => rfl
  | a + 2, h => exact absurd h (by omega)
set_option maxRecDepth 100000 in
theorem mk_gs78 {a : Nat} {f : Nat → Int32} (h : a < 2) : (am_mk I L).set (79 + a) (.inl (0, 60, f)) = am_mk (va_up I (79 + a) f) L := by
  match a, h with
  | 0, _ => rfl
  | 1, _ => rfl
  | a + 2, h => exact absurd h (by omega)
theorem mk_g81 {a : Nat} (h : a < 2) : (am_mk I L)[82 + a]? = some (.inl (0, 60, I (82 + a))) := by
  match a, h with
  | 0, _ => rfl
  | 1, _ => rfl
  | a + 2, h => exact absurd h (by omega)
set_option maxRecDepth 100000 in
theorem mk_gs81 {a : Nat} {f : Nat → Int32} (h : a < 2) : (am_mk I L).set (82 + a) (.inl (0, 60, f)) = am_mk (va_up I (82 + a) f) L := by
  match a, h with
  | 0, _ => rfl
  | 1, _ => rfl
  | a + 2, h => exact absurd h (by omega)
end MK
theorem am_inE {i : Int32} {j n : Nat} (hi : i = nI j) (hj : j < n) (hn : n ≤ 1000000) : am_in i n = true := by
  subst hi
  simp only [am_in, Bool.and_eq_true, Bool.not_eq_true', decide_eq_false_iff_not, decide_eq_true_eq]
  exact ⟨nI_pos (by omega), by rw [nI_clamp (by omega)]; exact hj⟩
theorem am_clT {i : Int32} {j n : Nat} (hi : i = nI j) (hj : j < n) (hn : n ≤ 1000000) : i.toNatClampNeg = j := by
  subst hi
  exact nI_clamp (by omega)
theorem am_clE {α : Type} {f : Nat → α} {i : Int32} {j n : Nat} (hi : i = nI j) (hj : j < n) (hn : n ≤ 1000000) : f i.toNatClampNeg = f j := by rw [am_clT hi hj hn]
/-- what comes back: an int, a long, nothing; and the two objects' cells -/
def am_ri (P : Int32 → (Nat → Nat → Int32) → (Nat → Nat → Int64) → Prop) : am_R := fun v m => ∃ z I L, v = some (.int z) ∧ m = (am_mk I L, 0, 0) ∧ P z I L
def am_rl (P : Int64 → (Nat → Nat → Int32) → (Nat → Nat → Int64) → Prop) : am_R := fun v m => ∃ z I L, v = some (.long z) ∧ m = (am_mk I L, 0, 0) ∧ P z I L
def am_rv (P : (Nat → Nat → Int32) → (Nat → Nat → Int64) → Prop) : am_R := fun v m => ∃ I L, v = none ∧ m = (am_mk I L, 0, 0) ∧ P I L
