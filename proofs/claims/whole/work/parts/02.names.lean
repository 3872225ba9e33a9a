/-! names, fields, links and methods, by program -/
def pm_cn : Nat → String
  | 0 => "EggsLast$Acts"
  | 1 => "EggsLast$Asks"
  | 2 => "EggsLast$BeltOrder"
  | 3 => "EggsLast$Rows"
  | 4 => "EggsLast$Shop"
  | 5 => "EggsLast$Tape"
  | 6 => "EggsLast$Ways"
  | 7 => "EggsLast"
  | 8 => "EggsLastModel"
  | 9 => "EggsLast$Clues"
  | 10 => "EggsLast$Kinds"
  | 11 => "EggsLast$Odds"
  | 12 => "EggsLastLaw"
  | 13 => "java/lang/Integer"
  | 14 => "java/lang/Math"
  | _ => ""
def F_Acts : u_T := fun k => match k with
  | 0 => ("EggsLast$Acts", "sorts", "[I", true)
  | 1 => ("EggsLast$Acts", "moved", "[I", true)
  | 2 => ("EggsLast$Acts", "from", "[I", true)
  | 3 => ("EggsLast$Acts", "crushedAhead", "[I", true)
  | 4 => ("EggsLast$Acts", "oldest", "I", false)
  | _ => ("EggsLast$Acts", "kept", "I", false)
def t_Acts : Nat → FieldType := fun k => match k with
  | 0 => .array .int
  | 1 => .array .int
  | 2 => .array .int
  | 3 => .array .int
  | 4 => .int
  | _ => .int
theorem n_Acts : ∀ a, a < 6 → ∀ b, b < 6 → a ≠ b → (F_Acts a).2.1 ≠ (F_Acts b).2.1 := by decide +kernel
theorem t_Acts_ok : ∀ k, k < 6 → parseFieldDescriptor (F_Acts k).2.2.1 = some (t_Acts k) := by decide +kernel
def F_Asks : u_T := fun k => match k with
  | 0 => ("EggsLast$Asks", "bodies", "[I", true)
  | 1 => ("EggsLast$Asks", "left", "I", false)
  | 2 => ("EggsLast$Asks", "number", "I", false)
  | 3 => ("EggsLast$Asks", "weight", "I", false)
  | 4 => ("EggsLast$Asks", "load", "I", false)
  | 5 => ("EggsLast$Asks", "sizeBody", "I", false)
  | _ => ("EggsLast$Asks", "markBody", "I", false)
def t_Asks : Nat → FieldType := fun k => match k with
  | 0 => .array .int
  | 1 => .int
  | 2 => .int
  | 3 => .int
  | 4 => .int
  | 5 => .int
  | _ => .int
theorem n_Asks : ∀ a, a < 7 → ∀ b, b < 7 → a ≠ b → (F_Asks a).2.1 ≠ (F_Asks b).2.1 := by decide +kernel
theorem t_Asks_ok : ∀ k, k < 7 → parseFieldDescriptor (F_Asks k).2.2.1 = some (t_Asks k) := by decide +kernel
def F_BeltOrder : u_T := fun k => match k with
  | 0 => ("EggsLast$BeltOrder", "fewest", "[I", true)
  | 1 => ("EggsLast$BeltOrder", "presses", "[I", true)
  | 2 => ("EggsLast$BeltOrder", "shop", "LEggsLast$Shop;", false)
  | _ => ("EggsLast$BeltOrder", "belt", "I", false)
def t_BeltOrder : Nat → FieldType := fun k => match k with
  | 0 => .array .int
  | 1 => .array .int
  | 2 => .object "EggsLast$Shop"
  | _ => .int
theorem n_BeltOrder : ∀ a, a < 4 → ∀ b, b < 4 → a ≠ b → (F_BeltOrder a).2.1 ≠ (F_BeltOrder b).2.1 := by decide +kernel
theorem t_BeltOrder_ok : ∀ k, k < 4 → parseFieldDescriptor (F_BeltOrder k).2.2.1 = some (t_BeltOrder k) := by decide +kernel
def F_Rows : u_T := fun k => match k with
  | 0 => ("EggsLast$Rows", "items", "[[I", true)
  | 1 => ("EggsLast$Rows", "lanes", "[I", true)
  | _ => ("EggsLast$Rows", "sizes", "[I", true)
def t_Rows : Nat → FieldType := fun k => match k with
  | 0 => .array (.array .int)
  | 1 => .array .int
  | _ => .array .int
theorem n_Rows : ∀ a, a < 3 → ∀ b, b < 3 → a ≠ b → (F_Rows a).2.1 ≠ (F_Rows b).2.1 := by decide +kernel
theorem t_Rows_ok : ∀ k, k < 3 → parseFieldDescriptor (F_Rows k).2.2.1 = some (t_Rows k) := by decide +kernel
def F_Shop : u_T := fun k => match k with
  | 0 => ("EggsLast$Shop", "bags", "I", false)
  | 1 => ("EggsLast$Shop", "holds", "I", false)
  | 2 => ("EggsLast$Shop", "warmth", "I", false)
  | 3 => ("EggsLast$Shop", "things", "I", false)
  | 4 => ("EggsLast$Shop", "beep", "I", false)
  | 5 => ("EggsLast$Shop", "crushed", "I", false)
  | 6 => ("EggsLast$Shop", "kind", "[I", true)
  | 7 => ("EggsLast$Shop", "weight", "[I", true)
  | 8 => ("EggsLast$Shop", "soft", "[I", true)
  | 9 => ("EggsLast$Shop", "where", "[I", true)
  | 10 => ("EggsLast$Shop", "height", "[I", true)
  | _ => ("EggsLast$Shop", "came", "[I", true)
def t_Shop : Nat → FieldType := fun k => match k with
  | 0 => .int
  | 1 => .int
  | 2 => .int
  | 3 => .int
  | 4 => .int
  | 5 => .int
  | 6 => .array .int
  | 7 => .array .int
  | 8 => .array .int
  | 9 => .array .int
  | 10 => .array .int
  | _ => .array .int
theorem n_Shop : ∀ a, a < 12 → ∀ b, b < 12 → a ≠ b → (F_Shop a).2.1 ≠ (F_Shop b).2.1 := by decide +kernel
theorem t_Shop_ok : ∀ k, k < 12 → parseFieldDescriptor (F_Shop k).2.2.1 = some (t_Shop k) := by decide +kernel
def F_Tape : u_T := fun k => match k with
  | 0 => ("EggsLast$Tape", "bytes", "[I", true)
  | 1 => ("EggsLast$Tape", "length", "I", false)
  | 2 => ("EggsLast$Tape", "place", "I", false)
  | _ => ("EggsLast$Tape", "fault", "I", false)
def t_Tape : Nat → FieldType := fun k => match k with
  | 0 => .array .int
  | 1 => .int
  | 2 => .int
  | _ => .int
theorem n_Tape : ∀ a, a < 4 → ∀ b, b < 4 → a ≠ b → (F_Tape a).2.1 ≠ (F_Tape b).2.1 := by decide +kernel
theorem t_Tape_ok : ∀ k, k < 4 → parseFieldDescriptor (F_Tape k).2.2.1 = some (t_Tape k) := by decide +kernel
def F_Ways : u_T := fun k => match k with
  | 0 => ("EggsLast$Ways", "queue", "[I", true)
  | 1 => ("EggsLast$Ways", "packed", "[I", true)
  | 2 => ("EggsLast$Ways", "tried", "[I", true)
  | 3 => ("EggsLast$Ways", "best", "[I", true)
  | 4 => ("EggsLast$Ways", "press", "[I", true)
  | 5 => ("EggsLast$Ways", "spare", "[I", true)
  | 6 => ("EggsLast$Ways", "weight", "[I", true)
  | 7 => ("EggsLast$Ways", "inBag", "[I", true)
  | 8 => ("EggsLast$Ways", "weighs", "[I", true)
  | 9 => ("EggsLast$Ways", "bags", "I", false)
  | 10 => ("EggsLast$Ways", "holds", "I", false)
  | 11 => ("EggsLast$Ways", "queued", "I", false)
  | 12 => ("EggsLast$Ways", "packedMany", "I", false)
  | 13 => ("EggsLast$Ways", "fewest", "I", false)
  | 14 => ("EggsLast$Ways", "lightest", "I", false)
  | 15 => ("EggsLast$Ways", "given", "I", false)
  | _ => ("EggsLast$Ways", "givenFewest", "I", false)
def t_Ways : Nat → FieldType := fun k => match k with
  | 0 => .array .int
  | 1 => .array .int
  | 2 => .array .int
  | 3 => .array .int
  | 4 => .array .int
  | 5 => .array .int
  | 6 => .array .int
  | 7 => .array .int
  | 8 => .array .int
  | 9 => .int
  | 10 => .int
  | 11 => .int
  | 12 => .int
  | 13 => .int
  | 14 => .int
  | 15 => .int
  | _ => .int
theorem n_Ways : ∀ a, a < 17 → ∀ b, b < 17 → a ≠ b → (F_Ways a).2.1 ≠ (F_Ways b).2.1 := by decide +kernel
theorem t_Ways_ok : ∀ k, k < 17 → parseFieldDescriptor (F_Ways k).2.2.1 = some (t_Ways k) := by decide +kernel
def F_Eggs : u_T := fun k => match k with
  | 0 => ("EggsLast", "rows", "LEggsLast$Rows;", true)
  | 1 => ("EggsLast", "tape", "LEggsLast$Tape;", true)
  | 2 => ("EggsLast", "shop", "LEggsLast$Shop;", true)
  | 3 => ("EggsLast", "trial", "LEggsLast$Shop;", true)
  | 4 => ("EggsLast", "images", "[LEggsLast$Shop;", true)
  | 5 => ("EggsLast", "acts", "LEggsLast$Acts;", true)
  | 6 => ("EggsLast", "ways", "LEggsLast$Ways;", true)
  | 7 => ("EggsLast", "beltOrder", "LEggsLast$BeltOrder;", true)
  | 8 => ("EggsLast", "asks", "LEggsLast$Asks;", true)
  | 9 => ("EggsLast", "latestFault", "I", false)
  | _ => ("EggsLast", "latestFinding", "I", false)
def t_Eggs : Nat → FieldType := fun k => match k with
  | 0 => .object "EggsLast$Rows"
  | 1 => .object "EggsLast$Tape"
  | 2 => .object "EggsLast$Shop"
  | 3 => .object "EggsLast$Shop"
  | 4 => .array (.object "EggsLast$Shop")
  | 5 => .object "EggsLast$Acts"
  | 6 => .object "EggsLast$Ways"
  | 7 => .object "EggsLast$BeltOrder"
  | 8 => .object "EggsLast$Asks"
  | 9 => .int
  | _ => .int
theorem n_Eggs : ∀ a, a < 11 → ∀ b, b < 11 → a ≠ b → (F_Eggs a).2.1 ≠ (F_Eggs b).2.1 := by decide +kernel
theorem t_Eggs_ok : ∀ k, k < 11 → parseFieldDescriptor (F_Eggs k).2.2.1 = some (t_Eggs k) := by decide +kernel
def F_Model : u_T := fun k => match k with
  | 0 => ("EggsLastModel", "thrown", "I", false)
  | 1 => ("EggsLastModel", "status", "I", false)
  | 2 => ("EggsLastModel", "lane", "[I", true)
  | 3 => ("EggsLastModel", "many", "[I", true)
  | 4 => ("EggsLastModel", "item", "[I", true)
  | 5 => ("EggsLastModel", "shop", "[I", true)
  | 6 => ("EggsLastModel", "fresh", "[I", true)
  | 7 => ("EggsLastModel", "then", "[I", true)
  | 8 => ("EggsLastModel", "was", "[I", true)
  | 9 => ("EggsLastModel", "acts", "I", false)
  | 10 => ("EggsLastModel", "tape", "[I", true)
  | 11 => ("EggsLastModel", "taped", "I", false)
  | 12 => ("EggsLastModel", "cursor", "I", false)
  | 13 => ("EggsLastModel", "start", "I", false)
  | 14 => ("EggsLastModel", "token", "I", false)
  | 15 => ("EggsLastModel", "value", "I", false)
  | 16 => ("EggsLastModel", "fault", "I", false)
  | 17 => ("EggsLastModel", "faultAt", "I", false)
  | 18 => ("EggsLastModel", "latest", "I", false)
  | 19 => ("EggsLastModel", "packed", "[I", true)
  | 20 => ("EggsLastModel", "many0", "I", false)
  | 21 => ("EggsLastModel", "bestWay", "I", false)
  | 22 => ("EggsLastModel", "fewest", "I", false)
  | 23 => ("EggsLastModel", "lightest", "I", false)
  | 24 => ("EggsLastModel", "tried", "[I", true)
  | 25 => ("EggsLastModel", "best", "[I", true)
  | 26 => ("EggsLastModel", "isKept", "[Z", true)
  | 27 => ("EggsLastModel", "kept", "[I", true)
  | 28 => ("EggsLastModel", "trace", "[I", true)
  | _ => ("EggsLastModel", "traced", "I", false)
def t_Model : Nat → FieldType := fun k => match k with
  | 0 => .int
  | 1 => .int
  | 2 => .array .int
  | 3 => .array .int
  | 4 => .array .int
  | 5 => .array .int
  | 6 => .array .int
  | 7 => .array .int
  | 8 => .array .int
  | 9 => .int
  | 10 => .array .int
  | 11 => .int
  | 12 => .int
  | 13 => .int
  | 14 => .int
  | 15 => .int
  | 16 => .int
  | 17 => .int
  | 18 => .int
  | 19 => .array .int
  | 20 => .int
  | 21 => .int
  | 22 => .int
  | 23 => .int
  | 24 => .array .int
  | 25 => .array .int
  | 26 => .array .boolean
  | 27 => .array .int
  | 28 => .array .int
  | _ => .int
theorem n_Model : ∀ a, a < 30 → ∀ b, b < 30 → a ≠ b → (F_Model a).2.1 ≠ (F_Model b).2.1 := by decide +kernel
theorem t_Model_ok : ∀ k, k < 30 → parseFieldDescriptor (F_Model k).2.2.1 = some (t_Model k) := by decide +kernel
/-- the classes whose objects there are -/
abbrev pm_cl : List vw_C := [("EggsLast$Acts", F_Acts, 6), ("EggsLast$Asks", F_Asks, 7), ("EggsLast$BeltOrder", F_BeltOrder, 4), ("EggsLast$Rows", F_Rows, 3), ("EggsLast$Shop", F_Shop, 12), ("EggsLast$Tape", F_Tape, 4), ("EggsLast$Ways", F_Ways, 17), ("EggsLast", F_Eggs, 11), ("EggsLastModel", F_Model, 30)]
def pm_gt : List Cond := lw_tbl.filter goodWord
/-- links of fields: index, class, place, a nest mate's, 0 an int or 1 a reference, final, place in lw_tbl -/
def pm_fl : Nat → List (Nat × Nat × Nat × Bool × Nat × Bool × Nat)
  | 0 => [(11, 0, 0, false, 1, true, 204), (15, 0, 1, false, 1, true, 205), (18, 0, 2, false, 1, true, 206), (21, 0, 3, false, 1, true, 207), (24, 0, 5, false, 0, false, 209), (28, 0, 4, false, 0, false, 208), (32, 4, 9, true, 1, true, 165), (37, 4, 5, true, 0, false, 147), (44, 4, 4, true, 0, false, 143)]
  | 1 => [(11, 1, 0, false, 1, true, 311), (15, 4, 6, true, 1, true, 152), (23, 1, 2, false, 0, false, 313), (27, 4, 7, true, 1, true, 156), (30, 1, 3, false, 0, false, 314), (36, 1, 4, false, 0, false, 315), (42, 1, 5, false, 0, false, 316), (48, 1, 6, false, 0, false, 317), (51, 1, 1, false, 0, false, 312)]
  | 2 => [(11, 2, 0, false, 1, true, 292), (15, 2, 1, false, 1, true, 293), (18, 2, 2, false, 1, false, 294), (28, 2, 3, false, 0, false, 295), (36, 4, 3, true, 0, false, 138), (58, 4, 5, true, 0, false, 148), (61, 4, 9, true, 1, true, 168)]
  | 3 => [(13, 3, 0, false, 1, true, 89), (16, 3, 1, false, 1, true, 91), (20, 3, 2, false, 1, true, 92)]
  | 4 => [(9, 4, 6, false, 1, true, 151), (15, 4, 7, false, 1, true, 155), (18, 4, 8, false, 1, true, 160), (21, 4, 9, false, 1, true, 163), (24, 4, 10, false, 1, true, 170), (27, 4, 11, false, 1, true, 171), (30, 4, 0, false, 0, false, 128), (34, 4, 3, false, 0, false, 137), (37, 4, 1, false, 0, false, 133), (40, 4, 2, false, 0, false, 135), (43, 4, 4, false, 0, false, 144), (46, 4, 5, false, 0, false, 149)]
  | 5 => [(11, 5, 0, false, 1, true, 107), (15, 5, 1, false, 0, false, 108), (20, 5, 2, false, 0, false, 110), (23, 5, 3, false, 0, false, 112), (50, 4, 3, true, 0, false, 140)]
  | 6 => [(9, 6, 0, false, 1, true, 230), (15, 6, 1, false, 1, true, 231), (18, 6, 2, false, 1, true, 232), (21, 6, 3, false, 1, true, 233), (24, 6, 4, false, 1, true, 234), (27, 6, 5, false, 1, true, 235), (30, 6, 6, false, 1, true, 236), (33, 6, 7, false, 1, true, 237), (36, 6, 8, false, 1, true, 238), (48, 6, 13, false, 0, false, 243), (52, 4, 5, true, 0, false, 146), (69, 6, 15, false, 0, false, 247), (72, 6, 16, false, 0, false, 249), (75, 4, 3, true, 0, false, 139), (78, 4, 9, true, 1, true, 166), (88, 6, 14, false, 0, false, 245), (91, 6, 12, false, 0, false, 242), (94, 4, 0, true, 0, false, 131), (97, 6, 9, false, 0, false, 239), (98, 4, 1, true, 0, false, 134), (101, 6, 10, false, 0, false, 240), (117, 4, 7, true, 1, true, 158), (118, 6, 11, false, 0, false, 241)]
  | 7 => [(10, 7, 0, false, 1, true, 333), (19, 7, 1, false, 1, true, 334), (26, 7, 2, false, 1, true, 335), (30, 7, 3, false, 1, true, 336), (33, 7, 4, false, 1, true, 337), (40, 7, 5, false, 1, true, 338), (47, 7, 6, false, 1, true, 339), (54, 7, 7, false, 1, true, 340), (61, 7, 8, false, 1, true, 341), (116, 7, 9, false, 0, false, 342), (121, 5, 2, true, 0, false, 111), (131, 4, 3, true, 0, false, 142), (142, 4, 4, true, 0, false, 145), (169, 4, 9, true, 1, true, 169), (184, 4, 7, true, 1, true, 159), (187, 4, 8, true, 1, true, 162), (211, 4, 5, true, 0, false, 150), (221, 6, 13, true, 0, false, 244), (224, 6, 14, true, 0, false, 246), (236, 6, 15, true, 0, false, 248), (239, 6, 16, true, 0, false, 250), (265, 4, 0, true, 0, false, 132), (268, 3, 0, true, 1, true, 90), (316, 4, 6, true, 1, true, 154), (334, 0, 5, true, 0, false, 210), (337, 5, 1, true, 0, false, 109), (340, 7, 10, false, 0, false, 343)]
  | 8 => [(7, 8, 2, false, 1, true, 1014), (13, 8, 3, false, 1, true, 1015), (16, 8, 4, false, 1, true, 1016), (19, 8, 5, false, 1, true, 1017), (22, 8, 6, false, 1, true, 1018), (25, 8, 7, false, 1, true, 1019), (28, 8, 8, false, 1, true, 1020), (31, 8, 10, false, 1, true, 1022), (34, 8, 19, false, 1, true, 1031), (37, 8, 24, false, 1, true, 1036), (40, 8, 25, false, 1, true, 1037), (43, 8, 26, false, 1, true, 1038), (47, 8, 27, false, 1, true, 1039), (50, 8, 28, false, 1, true, 1040), (53, 8, 0, false, 0, false, 1012), (57, 8, 1, false, 0, false, 1013), (80, 8, 11, false, 0, false, 1023), (84, 8, 16, false, 0, false, 1028), (87, 8, 13, false, 0, false, 1025), (90, 8, 17, false, 0, false, 1029), (93, 8, 12, false, 0, false, 1024), (97, 8, 15, false, 0, false, 1027), (108, 8, 14, false, 0, false, 1026), (122, 8, 18, false, 0, false, 1030), (152, 8, 9, false, 0, false, 1021), (230, 8, 20, false, 0, false, 1032), (242, 8, 21, false, 0, false, 1033), (255, 8, 22, false, 0, false, 1034), (258, 8, 23, false, 0, false, 1035), (302, 8, 29, false, 0, false, 1041)]
  | 9 => [(16, 4, 3, true, 0, false, 136), (22, 4, 9, true, 1, true, 164), (26, 4, 0, true, 0, false, 130), (33, 4, 7, true, 1, true, 157), (36, 4, 8, true, 1, true, 161), (45, 4, 6, true, 1, true, 153)]
  | 10 => []
  | 11 => [(19, 4, 0, true, 0, false, 129), (38, 4, 3, true, 0, false, 141), (41, 4, 9, true, 1, true, 167)]
  | 12 => []
  | 13 => []
  | 14 => []
  | _ => []
def pm_ct : Nat → List (Nat × Int32 × Nat)
  | 0 => [(31, (-1000000), 533), (40, (-1000002), 509)]
  | 1 => [(22, (-1000001), 972), (58, (-1000000), 993)]
  | 2 => [(75, (-1000000), 806)]
  | 3 => []
  | 4 => [(53, (-1000000), 532), (112, 2147483647, 819)]
  | 5 => [(19, (-1000003), 444)]
  | 6 => [(43, (-1000000), 695), (87, 2147483647, 770)]
  | 7 => [(72, (-1000001), 377), (120, (-1000100), 488), (141, (-1000002), 546), (145, (-1000003), 547), (177, (-1000000), 575), (304, 999999, 928), (343, (-1000010), 382)]
  | 8 => [(60, (-1000010), 1121), (73, (-1000001), 1116), (83, (-1000003), 1139), (96, (-1000000), 1156), (151, (-1000100), 1196), (190, (-1000002), 1205)]
  | 9 => [(9, (-1000000), 852)]
  | 10 => []
  | 11 => []
  | 12 => []
  | 13 => [(265, 1431655765, 525), (266, 858993459, 526), (267, 252645135, 527)]
  | 14 => []
  | _ => []
def pm_lt : Nat → List (Nat × Int32 × Nat)
  | 0 => []
  | 1 => []
  | 2 => []
  | 3 => []
  | 4 => [(72, 16807, 934), (74, 2147483647, 935), (76, 3, 936)]
  | 5 => []
  | 6 => []
  | 7 => [(294, (-1000002), 898), (298, (-1000001), 899)]
  | 8 => [(61, 7, 1111), (71, 2, 1115), (78, 255, 1138), (100, 97, 1157), (102, 122, 1158), (104, 48, 1159), (106, 57, 1160), (191, 24, 1206), (221, 3, 1293), (261, (-2), 1311), (279, (-1000002), 1403), (281, 10, 1404), (283, (-1000001), 1405), (285, 60, 1410), (287, 999999, 1411), (289, 16807, 1412), (291, 2147483647, 1413), (296, 5, 1433)]
  | 9 => []
  | 10 => []
  | 11 => [(25, 2, 922), (27, 5, 923), (29, 10, 921)]
  | 12 => []
  | 13 => []
  | 14 => []
  | _ => []
def pm_nl : Nat → List (Nat × Nat × Nat)
  | 0 => []
  | 1 => []
  | 2 => []
  | 3 => []
  | 4 => []
  | 5 => []
  | 6 => []
  | 7 => [(7, 3, 81), (16, 5, 101), (23, 4, 122), (37, 0, 198), (44, 6, 224), (51, 2, 286), (58, 1, 305)]
  | 8 => []
  | 9 => []
  | 10 => []
  | 11 => []
  | 12 => [(7, 7, 73), (10, 8, 1006)]
  | 13 => []
  | 14 => []
  | _ => []
/-- links of methods: index, method, a nest mate's, place -/
def pm_ml : Nat → List (Nat × Nat × Bool × Nat)
  | 0 => [(41, 42, false, 510), (47, 47, false, 534)]
  | 1 => [(32, 59, false, 973), (54, 145, false, 978), (59, 146, false, 981)]
  | 2 => [(22, 44, false, 779), (32, 102, false, 780), (39, 70, false, 784), (42, 103, false, 785), (51, 71, false, 789), (55, 62, false, 790), (64, 59, false, 796), (67, 45, false, 797), (72, 106, false, 802)]
  | 3 => [(23, 16, false, 399), (27, 17, false, 403)]
  | 4 => [(49, 50, false, 560), (54, 47, false, 561), (58, 58, false, 584), (62, 43, false, 514), (65, 46, false, 528), (69, 52, false, 933), (78, 57, false, 937), (81, 44, false, 518), (84, 45, false, 522), (89, 60, false, 592), (92, 61, false, 596), (97, 63, false, 603), (100, 59, false, 588), (103, 62, false, 599), (106, 109, false, 815), (109, 70, false, 822), (113, 71, false, 820), (122, 74, false, 658), (128, 72, false, 667), (131, 126, false, 886)]
  | 5 => [(26, 28, false, 453), (30, 32, false, 469), (33, 36, false, 484), (38, 29, false, 457), (42, 30, false, 461), (46, 31, false, 465), (53, 33, false, 473), (57, 35, false, 480), (62, 34, false, 477)]
  | 6 => [(39, 80, false, 676), (44, 84, false, 700), (57, 85, false, 704), (61, 86, false, 711), (65, 95, false, 748), (81, 99, false, 766), (102, 44, false, 680), (106, 74, false, 681), (108, 70, false, 682), (111, 62, false, 683), (114, 59, false, 684), (121, 81, false, 685), (125, 83, false, 696), (128, 43, false, 689), (131, 46, false, 690), (135, 82, false, 691), (138, 45, false, 714), (141, 87, false, 715), (145, 88, false, 719), (148, 89, false, 723), (151, 90, false, 727), (159, 91, false, 732), (162, 96, false, 751)]
  | 7 => [(9, 1, false, 83), (18, 2, true, 103), (25, 3, true, 124), (39, 4, true, 200), (46, 5, true, 226), (53, 6, true, 288), (60, 7, true, 307), (65, 9, false, 371), (69, 10, false, 374), (73, 11, false, 378), (77, 12, false, 383), (81, 13, false, 387), (84, 15, false, 395), (88, 18, false, 407), (91, 16, false, 415), (94, 20, false, 416), (98, 17, false, 420), (102, 21, false, 421), (106, 23, false, 432), (109, 25, false, 440), (112, 27, false, 449), (124, 37, false, 489), (128, 38, false, 493), (134, 41, false, 505), (137, 49, false, 542), (146, 50, false, 548), (149, 51, false, 552), (153, 52, false, 556), (156, 43, false, 562), (159, 54, false, 567), (162, 55, false, 571), (166, 66, false, 614), (173, 56, false, 576), (178, 59, false, 618), (181, 42, false, 627), (190, 70, false, 632), (193, 62, false, 636), (196, 71, false, 637), (199, 72, false, 641), (202, 74, false, 649), (205, 44, false, 653), (208, 75, false, 654), (214, 77, false, 663), (218, 79, false, 672), (227, 92, false, 736), (230, 94, false, 744), (233, 98, false, 762), (242, 101, false, 775), (245, 104, false, 792), (248, 105, false, 798), (251, 108, false, 811), (254, 60, false, 831), (257, 112, false, 832), (260, 85, false, 840), (263, 114, false, 841), (272, 116, false, 849), (278, 119, false, 861), (282, 121, false, 868), (285, 123, false, 875), (288, 125, false, 882), (291, 127, false, 890), (300, 129, false, 900), (305, 136, false, 929), (308, 45, false, 938), (313, 137, false, 939), (321, 142, false, 959), (324, 144, false, 968), (328, 148, false, 989), (331, 150, false, 998), (344, 57, false, 580)]
  | 8 => [(63, 155, false, 1112), (67, 154, false, 1108), (74, 156, false, 1117), (111, 167, false, 1169), (115, 164, false, 1152), (118, 166, false, 1165), (125, 171, false, 1185), (128, 168, false, 1173), (132, 169, false, 1177), (135, 163, false, 1148), (138, 165, false, 1161), (141, 170, false, 1181), (145, 172, false, 1188), (148, 173, false, 1192), (155, 179, false, 1217), (159, 189, false, 1249), (163, 190, false, 1252), (167, 201, false, 1294), (170, 188, false, 1246), (173, 191, false, 1255), (176, 180, false, 1220), (180, 187, false, 1243), (184, 178, false, 1214), (187, 175, false, 1201), (193, 176, false, 1207), (196, 177, false, 1211), (199, 181, false, 1223), (202, 182, false, 1226), (205, 184, false, 1233), (208, 185, false, 1237), (211, 186, false, 1240), (214, 194, false, 1266), (217, 199, false, 1286), (223, 202, false, 1297), (226, 204, false, 1304), (233, 210, false, 1328), (236, 211, false, 1332), (239, 207, false, 1316), (245, 208, false, 1320), (249, 209, false, 1324), (252, 212, false, 1336), (263, 206, false, 1312), (266, 216, false, 1351), (269, 222, false, 1375), (273, 223, false, 1379), (276, 226, false, 1391), (293, 230, false, 1414), (298, 235, false, 1434), (305, 239, false, 1449), (308, 240, false, 1453), (311, 238, false, 1445), (314, 241, false, 1457), (317, 237, false, 1441)]
  | 9 => [(10, 117, false, 853), (29, 74, false, 856), (39, 122, false, 871), (48, 58, false, 874)]
  | 10 => []
  | 11 => [(9, 130, false, 903), (15, 134, false, 918), (31, 131, false, 906), (35, 132, false, 910), (45, 71, false, 909), (49, 133, false, 913), (53, 75, false, 916), (56, 44, false, 917)]
  | 12 => [(9, 0, false, 75), (12, 152, false, 1008), (13, 8, false, 367), (17, 153, false, 1104), (18, 14, false, 391), (21, 157, false, 1122), (22, 19, false, 411), (26, 158, false, 1126), (27, 22, false, 428), (31, 159, false, 1130), (32, 24, false, 436), (35, 160, false, 1134), (36, 26, false, 445), (40, 162, false, 1144), (41, 39, false, 497), (44, 161, false, 1140), (45, 40, false, 501), (48, 197, false, 1278), (49, 48, false, 538), (52, 174, false, 1197), (53, 53, false, 563), (56, 183, false, 1229), (57, 64, false, 606), (60, 192, false, 1258), (61, 65, false, 610), (65, 193, false, 1262), (66, 67, false, 619), (69, 195, false, 1270), (70, 68, false, 623), (73, 196, false, 1274), (74, 69, false, 628), (77, 198, false, 1282), (78, 73, false, 645), (81, 200, false, 1289), (82, 76, false, 659), (85, 203, false, 1300), (86, 78, false, 668), (89, 205, false, 1307), (90, 93, false, 740), (93, 213, false, 1339), (94, 97, false, 758), (97, 214, false, 1343), (98, 100, false, 771), (101, 215, false, 1347), (102, 107, false, 807), (105, 217, false, 1355), (106, 110, false, 823), (109, 218, false, 1359), (110, 111, false, 827), (113, 219, false, 1363), (114, 113, false, 836), (117, 220, false, 1367), (118, 115, false, 845), (121, 221, false, 1371), (122, 118, false, 857), (125, 224, false, 1383), (126, 120, false, 864), (130, 225, false, 1387), (131, 124, false, 878), (134, 227, false, 1395), (135, 128, false, 894), (139, 228, false, 1399), (140, 135, false, 924), (143, 229, false, 1406), (144, 138, false, 943), (147, 231, false, 1417), (148, 139, false, 947), (151, 232, false, 1421), (152, 140, false, 951), (155, 233, false, 1425), (156, 141, false, 955), (159, 234, false, 1429), (160, 143, false, 964), (163, 236, false, 1437), (164, 147, false, 985), (167, 242, false, 1461), (168, 149, false, 994), (171, 243, false, 1465), (172, 151, false, 1002), (175, 244, false, 1469)]
  | 13 => []
  | 14 => []
  | _ => []
/-- links of Object's constructor -/
def pm_ol : Nat → List (Nat × Nat)
  | 0 => [(3, 203)]
  | 1 => [(3, 310)]
  | 2 => [(3, 291)]
  | 3 => [(3, 86)]
  | 4 => [(3, 127)]
  | 5 => [(3, 106)]
  | 6 => [(3, 229)]
  | 7 => [(1, 78)]
  | 8 => [(1, 1011)]
  | 9 => []
  | 10 => []
  | 11 => []
  | 12 => []
  | 13 => []
  | 14 => []
  | _ => []
/-- links of arraycopy -/
def pm_al : Nat → List (Nat × Nat)
  | 0 => []
  | 1 => []
  | 2 => []
  | 3 => [(31, 425)]
  | 4 => []
  | 5 => []
  | 6 => []
  | 7 => []
  | 8 => []
  | 9 => []
  | 10 => []
  | 11 => []
  | 12 => []
  | 13 => []
  | 14 => []
  | _ => []
/-- links of max -/
def pm_xl : Nat → List (Nat × Nat)
  | 0 => []
  | 1 => []
  | 2 => []
  | 3 => []
  | 4 => [(125, 708)]
  | 5 => []
  | 6 => [(154, 731)]
  | 7 => []
  | 8 => []
  | 9 => []
  | 10 => []
  | 11 => []
  | 12 => []
  | 13 => []
  | 14 => []
  | _ => []
/-- links of min -/
def pm_yl : Nat → List (Nat × Nat)
  | 0 => []
  | 1 => []
  | 2 => [(46, 791)]
  | 3 => []
  | 4 => [(117, 821)]
  | 5 => []
  | 6 => [(165, 755)]
  | 7 => []
  | 8 => []
  | 9 => []
  | 10 => []
  | 11 => []
  | 12 => []
  | 13 => []
  | 14 => []
  | _ => []
/-- links of static rows: index, which, place -/
def pm_sl : Nat → List (Nat × Nat × Nat)
  | 0 => []
  | 1 => [(39, 2, 974), (45, 3, 976)]
  | 2 => []
  | 3 => []
  | 4 => []
  | 5 => []
  | 6 => []
  | 7 => []
  | 8 => []
  | 9 => []
  | 10 => [(11, 1, 962)]
  | 11 => []
  | 12 => []
  | 13 => []
  | 14 => []
  | _ => []
/-- a method: name, bytes, locals, return, kind (0 static, 1 virtual, 2 constructor), how many values it takes, its class; places of its words: code, static or instance, selects, initialized -/
abbrev pm_T : Type := MethodName × ByteArray × Nat × Option FieldType × Nat × Nat × Nat × Nat × Nat × Nat × Nat
def pm_mt0 : List pm_T := [(⟨"EggsLast", "<init>", "()V"⟩, prog_1_method_1_code, 1, none, 2, 1, 7, 77, 76, 0, 58),
  (⟨"EggsLast$Rows", "<init>", "()V"⟩, prog_8_method_1_code, 2, none, 2, 1, 3, 85, 84, 0, 59),
  (⟨"EggsLast$Tape", "<init>", "()V"⟩, prog_10_method_1_code, 1, none, 2, 1, 5, 105, 104, 0, 60),
  (⟨"EggsLast$Shop", "<init>", "()V"⟩, prog_9_method_1_code, 1, none, 2, 1, 4, 126, 125, 0, 61),
  (⟨"EggsLast$Acts", "<init>", "()V"⟩, prog_2_method_1_code, 1, none, 2, 1, 0, 202, 201, 0, 62),
  (⟨"EggsLast$Ways", "<init>", "()V"⟩, prog_11_method_1_code, 1, none, 2, 1, 6, 228, 227, 0, 63),
  (⟨"EggsLast$BeltOrder", "<init>", "()V"⟩, prog_4_method_1_code, 1, none, 2, 1, 2, 290, 289, 0, 64),
  (⟨"EggsLast$Asks", "<init>", "()V"⟩, prog_3_method_1_code, 1, none, 2, 1, 1, 309, 308, 0, 65),
  (⟨"EggsLast", "row", "(III)I"⟩, prog_1_method_2_code, 4, (some .int), 1, 4, 7, 370, 368, 369, 58),
  (⟨"EggsLast$Rows", "isRow", "(I)Z"⟩, prog_8_method_2_code, 1, (some .boolean), 0, 1, 3, 373, 372, 0, 59),
  (⟨"EggsLast$Rows", "isLane", "(I)Z"⟩, prog_8_method_3_code, 1, (some .boolean), 0, 1, 3, 376, 375, 0, 59),
  (⟨"EggsLast", "found", "(I)I"⟩, prog_1_method_41_code, 2, (some .int), 1, 2, 7, 381, 380, 0, 58),
  (⟨"EggsLast$Rows", "make", "(III)V"⟩, prog_8_method_9_code, 5, none, 1, 4, 3, 386, 384, 385, 59),
  (⟨"EggsLast", "fine", "(I)I"⟩, prog_1_method_42_code, 2, (some .int), 1, 2, 7, 390, 389, 1, 58),
  (⟨"EggsLast", "set", "(III)I"⟩, prog_1_method_3_code, 5, (some .int), 1, 4, 7, 394, 392, 393, 58),
  (⟨"EggsLast$Rows", "findingAt", "(III)I"⟩, prog_8_method_7_code, 4, (some .int), 1, 4, 3, 398, 396, 397, 59),
  (⟨"EggsLast$Rows", "isMissing", "(I)Z"⟩, prog_8_method_4_code, 2, (some .boolean), 1, 2, 3, 402, 400, 401, 59),
  (⟨"EggsLast$Rows", "reaches", "(III)Z"⟩, prog_8_method_6_code, 4, (some .boolean), 1, 4, 3, 406, 404, 405, 59),
  (⟨"EggsLast$Rows", "put", "(III)I"⟩, prog_8_method_10_code, 5, (some .int), 1, 4, 3, 410, 408, 409, 59),
  (⟨"EggsLast", "copy", "(IIIII)I"⟩, prog_1_method_4_code, 6, (some .int), 1, 6, 7, 414, 412, 413, 58),
  (⟨"EggsLast$Rows", "areOfOneLane", "(II)Z"⟩, prog_8_method_5_code, 3, (some .boolean), 1, 3, 3, 419, 417, 418, 59),
  (⟨"EggsLast$Rows", "carry", "(IIIII)V"⟩, prog_8_method_11_code, 6, none, 1, 6, 3, 424, 422, 423, 59),
  (⟨"EggsLast", "drop", "(I)I"⟩, prog_1_method_5_code, 2, (some .int), 1, 2, 7, 431, 429, 430, 58),
  (⟨"EggsLast$Rows", "lose", "(I)I"⟩, prog_8_method_12_code, 3, (some .int), 1, 2, 3, 435, 433, 434, 59),
  (⟨"EggsLast", "feed", "(I)I"⟩, prog_1_method_6_code, 2, (some .int), 1, 2, 7, 439, 437, 438, 58),
  (⟨"EggsLast$Tape", "append", "(I)I"⟩, prog_10_method_2_code, 2, (some .int), 1, 2, 5, 443, 441, 442, 60),
  (⟨"EggsLast", "shop", "()I"⟩, prog_1_method_7_code, 2, (some .int), 1, 1, 7, 448, 446, 447, 58),
  (⟨"EggsLast$Tape", "read", "(LEggsLast$Shop;)I"⟩, prog_10_method_3_code, 3, (some .int), 1, 2, 5, 452, 450, 451, 60),
  (⟨"EggsLast$Tape", "readLaw", "(LEggsLast$Shop;)V"⟩, prog_10_method_4_code, 5, none, 1, 2, 5, 456, 455, 2, 60),
  (⟨"EggsLast$Tape", "readSign", "(C)V"⟩, prog_10_method_6_code, 2, none, 1, 2, 5, 460, 459, 3, 60),
  (⟨"EggsLast$Tape", "readNumber", "(II)I"⟩, prog_10_method_7_code, 6, (some .int), 1, 3, 5, 464, 463, 4, 60),
  (⟨"EggsLast$Shop", "open", "(III)V"⟩, prog_9_method_5_code, 4, none, 1, 4, 4, 468, 466, 467, 61)]
def pm_mt1 : List pm_T := [(⟨"EggsLast$Tape", "readThing", "(LEggsLast$Shop;)V"⟩, prog_10_method_5_code, 5, none, 1, 2, 5, 472, 471, 5, 60),
  (⟨"EggsLast$Tape", "readSort", "(I)I"⟩, prog_10_method_8_code, 3, (some .int), 1, 2, 5, 476, 475, 6, 60),
  (⟨"EggsLast$Kinds", "byLetter", "(I)I"⟩, prog_6_method_2_code, 1, (some .int), 0, 1, 10, 479, 478, 0, 68),
  (⟨"EggsLast$Shop", "add", "(III)V"⟩, prog_9_method_6_code, 4, none, 1, 4, 4, 483, 481, 482, 61),
  (⟨"EggsLast$Shop", "layAllOnBelt", "()V"⟩, prog_9_method_7_code, 2, none, 1, 1, 4, 487, 485, 486, 61),
  (⟨"EggsLast$Shop", "become", "(LEggsLast$Shop;)V"⟩, prog_9_method_8_code, 3, none, 1, 2, 4, 492, 490, 491, 61),
  (⟨"EggsLast$Acts", "forget", "()V"⟩, prog_2_method_2_code, 1, none, 1, 1, 0, 496, 494, 495, 62),
  (⟨"EggsLast", "fault", "()I"⟩, prog_1_method_8_code, 1, (some .int), 1, 1, 7, 500, 498, 499, 58),
  (⟨"EggsLast", "undo", "()I"⟩, prog_1_method_9_code, 1, (some .int), 1, 1, 7, 504, 502, 503, 58),
  (⟨"EggsLast$Acts", "takeBack", "(LEggsLast$Shop;)I"⟩, prog_2_method_4_code, 3, (some .int), 1, 2, 0, 508, 506, 507, 62),
  (⟨"EggsLast$Shop", "swapFirstTwo", "()V"⟩, prog_9_method_12_code, 4, none, 1, 1, 4, 513, 511, 512, 61),
  (⟨"EggsLast$Shop", "countAt", "(I)I"⟩, prog_9_method_14_code, 2, (some .int), 1, 2, 4, 517, 515, 516, 61),
  (⟨"EggsLast$Shop", "bitsAt", "(I)I"⟩, prog_9_method_15_code, 4, (some .int), 1, 2, 4, 521, 519, 520, 61),
  (⟨"java/lang/Integer", "bitCount", "(I)I"⟩, prog_14_method_49_code, 1, (some .int), 0, 1, 13, 524, 523, 0, 69),
  (⟨"EggsLast$Shop", "thingAt", "(II)I"⟩, prog_9_method_16_code, 4, (some .int), 1, 3, 4, 531, 529, 530, 61),
  (⟨"EggsLast$Shop", "put", "(II)V"⟩, prog_9_method_11_code, 3, none, 1, 3, 4, 537, 535, 536, 61),
  (⟨"EggsLast", "beeps", "(I)I"⟩, prog_1_method_10_code, 3, (some .int), 1, 2, 7, 541, 539, 540, 58),
  (⟨"EggsLast$Shop", "stands", "()Z"⟩, prog_9_method_2_code, 1, (some .boolean), 1, 1, 4, 545, 543, 544, 61),
  (⟨"EggsLast$Shop", "topOf", "(I)I"⟩, prog_9_method_17_code, 2, (some .int), 1, 2, 4, 551, 549, 550, 61),
  (⟨"EggsLast$Acts", "keep", "(IILEggsLast$Shop;)V"⟩, prog_2_method_3_code, 5, none, 1, 4, 0, 555, 553, 554, 62),
  (⟨"EggsLast$Shop", "beepOnce", "()V"⟩, prog_9_method_9_code, 2, none, 1, 1, 4, 559, 557, 558, 61),
  (⟨"EggsLast", "pack", "(I)I"⟩, prog_1_method_11_code, 2, (some .int), 1, 2, 7, 566, 564, 565, 58),
  (⟨"EggsLast$Shop", "hasBag", "(I)Z"⟩, prog_9_method_4_code, 2, (some .boolean), 1, 2, 4, 570, 568, 569, 61),
  (⟨"EggsLast", "moveTop", "(II)I"⟩, prog_1_method_43_code, 4, (some .int), 1, 3, 7, 574, 573, 7, 58),
  (⟨"EggsLast", "move", "(II)V"⟩, prog_1_method_44_code, 3, none, 1, 3, 7, 579, 578, 8, 58),
  (⟨"EggsLast$Shop", "lay", "(II)V"⟩, prog_9_method_10_code, 3, none, 1, 3, 4, 583, 581, 582, 61),
  (⟨"EggsLast$Shop", "overladenBits", "()I"⟩, prog_9_method_23_code, 3, (some .int), 1, 1, 4, 587, 585, 586, 61),
  (⟨"EggsLast$Shop", "loadOn", "(I)I"⟩, prog_9_method_22_code, 5, (some .int), 1, 2, 4, 591, 589, 590, 61),
  (⟨"EggsLast$Shop", "bitsAbove", "(I)I"⟩, prog_9_method_18_code, 4, (some .int), 1, 2, 4, 595, 593, 594, 61),
  (⟨"EggsLast$Kinds", "press", "(II)I"⟩, prog_6_method_4_code, 2, (some .int), 0, 2, 10, 598, 597, 0, 68),
  (⟨"EggsLast$Shop", "bearsOf", "(I)I"⟩, prog_9_method_21_code, 2, (some .int), 1, 2, 4, 602, 600, 601, 61),
  (⟨"EggsLast$Kinds", "bears", "(II)I"⟩, prog_6_method_5_code, 2, (some .int), 0, 2, 10, 605, 604, 0, 68)]
def pm_mt2 : List pm_T := [(⟨"EggsLast", "layBy", "()I"⟩, prog_1_method_12_code, 1, (some .int), 1, 1, 7, 609, 607, 608, 58),
  (⟨"EggsLast", "putIn", "(II)I"⟩, prog_1_method_13_code, 4, (some .int), 1, 3, 7, 613, 611, 612, 58),
  (⟨"EggsLast$Shop", "hasThing", "(I)Z"⟩, prog_9_method_3_code, 2, (some .boolean), 1, 2, 4, 617, 615, 616, 61),
  (⟨"EggsLast", "takeOut", "(I)I"⟩, prog_1_method_14_code, 2, (some .int), 1, 2, 7, 622, 620, 621, 58),
  (⟨"EggsLast", "swap", "()I"⟩, prog_1_method_15_code, 1, (some .int), 1, 1, 7, 626, 624, 625, 58),
  (⟨"EggsLast", "thing", "(II)I"⟩, prog_1_method_16_code, 3, (some .int), 1, 3, 7, 631, 629, 630, 58),
  (⟨"EggsLast$Shop", "pressOf", "(I)I"⟩, prog_9_method_20_code, 2, (some .int), 1, 2, 4, 635, 633, 634, 61),
  (⟨"EggsLast$Shop", "isCrushed", "(I)Z"⟩, prog_9_method_24_code, 2, (some .boolean), 1, 2, 4, 640, 638, 639, 61),
  (⟨"EggsLast$Shop", "isWarm", "(I)Z"⟩, prog_9_method_32_code, 2, (some .boolean), 1, 2, 4, 644, 642, 643, 61),
  (⟨"EggsLast", "bag", "(II)I"⟩, prog_1_method_17_code, 3, (some .int), 1, 3, 7, 648, 646, 647, 58),
  (⟨"EggsLast$Shop", "weighs", "(I)I"⟩, prog_9_method_27_code, 4, (some .int), 1, 2, 4, 652, 650, 651, 61),
  (⟨"EggsLast$Shop", "isTorn", "(I)Z"⟩, prog_9_method_28_code, 2, (some .boolean), 1, 2, 4, 657, 655, 656, 61),
  (⟨"EggsLast", "stand", "(I)I"⟩, prog_1_method_18_code, 2, (some .int), 1, 2, 7, 662, 660, 661, 58),
  (⟨"EggsLast$Shop", "warmBits", "()I"⟩, prog_9_method_33_code, 3, (some .int), 1, 1, 4, 666, 664, 665, 61),
  (⟨"EggsLast", "least", "(I)I"⟩, prog_1_method_19_code, 2, (some .int), 1, 2, 7, 671, 669, 670, 58),
  (⟨"EggsLast$Ways", "seekLeast", "(LEggsLast$Shop;)V"⟩, prog_11_method_2_code, 2, none, 1, 2, 6, 675, 673, 674, 63),
  (⟨"EggsLast$Ways", "begin", "(LEggsLast$Shop;)V"⟩, prog_11_method_7_code, 3, none, 1, 2, 6, 679, 678, 9, 63),
  (⟨"EggsLast$Ways", "queueFromTop", "(LEggsLast$Shop;I)V"⟩, prog_11_method_8_code, 4, none, 1, 3, 6, 688, 687, 10, 63),
  (⟨"EggsLast$Ways", "enqueue", "(I)V"⟩, prog_11_method_10_code, 2, none, 1, 2, 6, 694, 693, 11, 63),
  (⟨"EggsLast$Ways", "queueLaidBy", "(LEggsLast$Shop;)V"⟩, prog_11_method_9_code, 3, none, 1, 2, 6, 699, 698, 12, 63),
  (⟨"EggsLast$Ways", "packAllBut", "(I)V"⟩, prog_11_method_11_code, 3, none, 1, 2, 6, 703, 702, 13, 63),
  (⟨"EggsLast$Shop", "heaviest", "()I"⟩, prog_9_method_30_code, 3, (some .int), 1, 1, 4, 707, 705, 706, 61),
  (⟨"EggsLast$Ways", "goOn", "(LEggsLast$Ways;III)V"⟩, prog_11_method_12_code, 8, none, 0, 4, 6, 713, 712, 0, 63),
  (⟨"EggsLast$Ways", "isBetter", "(II)Z"⟩, prog_11_method_14_code, 3, (some .boolean), 1, 3, 6, 718, 717, 14, 63),
  (⟨"EggsLast$Ways", "keep", "(II)V"⟩, prog_11_method_15_code, 4, none, 1, 3, 6, 722, 721, 15, 63),
  (⟨"EggsLast$Ways", "bagsToTry", "()I"⟩, prog_11_method_13_code, 3, (some .int), 1, 1, 6, 726, 725, 16, 63),
  (⟨"EggsLast$Ways", "lay", "(II)I"⟩, prog_11_method_16_code, 5, (some .int), 1, 3, 6, 730, 729, 17, 63),
  (⟨"EggsLast$Ways", "lift", "(II)V"⟩, prog_11_method_17_code, 4, none, 1, 3, 6, 735, 734, 18, 63),
  (⟨"EggsLast$Ways", "bagFor", "(I)I"⟩, prog_11_method_6_code, 3, (some .int), 1, 2, 6, 739, 737, 738, 63),
  (⟨"EggsLast", "torn", "()I"⟩, prog_1_method_20_code, 1, (some .int), 1, 1, 7, 743, 741, 742, 58),
  (⟨"EggsLast$Ways", "seekTorn", "(LEggsLast$Shop;)I"⟩, prog_11_method_3_code, 2, (some .int), 1, 2, 6, 747, 745, 746, 63),
  (⟨"EggsLast$Ways", "fewestTorn", "(LEggsLast$Ways;II)I"⟩, prog_11_method_18_code, 8, (some .int), 0, 3, 6, 750, 749, 0, 63)]
def pm_mt3 : List pm_T := [(⟨"EggsLast$Ways", "tornNow", "()I"⟩, prog_11_method_19_code, 3, (some .int), 1, 1, 6, 754, 753, 19, 63),
  (⟨"EggsLast", "give", "(I)I"⟩, prog_1_method_21_code, 2, (some .int), 1, 2, 7, 761, 759, 760, 58),
  (⟨"EggsLast$Ways", "seekGive", "(LEggsLast$Shop;)V"⟩, prog_11_method_4_code, 3, none, 1, 2, 6, 765, 763, 764, 63),
  (⟨"EggsLast$Ways", "tryWithout", "(II)V"⟩, prog_11_method_5_code, 3, none, 1, 3, 6, 769, 768, 20, 63),
  (⟨"EggsLast", "order", "(II)I"⟩, prog_1_method_22_code, 3, (some .int), 1, 3, 7, 774, 772, 773, 58),
  (⟨"EggsLast$BeltOrder", "seek", "(LEggsLast$Shop;)V"⟩, prog_4_method_2_code, 3, none, 1, 2, 2, 778, 776, 777, 64),
  (⟨"EggsLast$BeltOrder", "weigh", "(I)V"⟩, prog_4_method_3_code, 3, none, 1, 2, 2, 783, 782, 21, 64),
  (⟨"EggsLast$BeltOrder", "fewestFrom", "(II)I"⟩, prog_4_method_4_code, 5, (some .int), 1, 3, 2, 788, 787, 22, 64),
  (⟨"EggsLast$BeltOrder", "crushedBy", "(I)I"⟩, prog_4_method_5_code, 4, (some .int), 1, 2, 2, 795, 793, 794, 64),
  (⟨"EggsLast$BeltOrder", "thingAt", "(I)I"⟩, prog_4_method_6_code, 5, (some .int), 1, 2, 2, 801, 799, 800, 64),
  (⟨"EggsLast$BeltOrder", "firstOf", "(I)I"⟩, prog_4_method_7_code, 3, (some .int), 1, 2, 2, 805, 804, 23, 64),
  (⟨"EggsLast", "top", "(I)I"⟩, prog_1_method_23_code, 2, (some .int), 1, 2, 7, 810, 808, 809, 58),
  (⟨"EggsLast$Shop", "harmlessOn", "(I)I"⟩, prog_9_method_25_code, 5, (some .int), 1, 2, 4, 814, 812, 813, 61),
  (⟨"EggsLast$Shop", "leastSpareAt", "(I)I"⟩, prog_9_method_26_code, 4, (some .int), 1, 2, 4, 818, 817, 24, 61),
  (⟨"EggsLast", "spare", "(I)I"⟩, prog_1_method_24_code, 2, (some .int), 1, 2, 7, 826, 824, 825, 58),
  (⟨"EggsLast", "beside", "(II)I"⟩, prog_1_method_25_code, 3, (some .int), 1, 3, 7, 830, 828, 829, 58),
  (⟨"EggsLast$Shop", "bitsBelow", "(I)I"⟩, prog_9_method_19_code, 2, (some .int), 1, 2, 4, 835, 833, 834, 61),
  (⟨"EggsLast", "even", "()I"⟩, prog_1_method_26_code, 1, (some .int), 1, 1, 7, 839, 837, 838, 58),
  (⟨"EggsLast$Shop", "lightest", "()I"⟩, prog_9_method_31_code, 3, (some .int), 1, 1, 4, 844, 842, 843, 61),
  (⟨"EggsLast", "astray", "(II)I"⟩, prog_1_method_27_code, 4, (some .int), 1, 3, 7, 848, 846, 847, 58),
  (⟨"EggsLast$Clues", "missing", "(LEggsLast$Shop;[II)I"⟩, prog_5_method_2_code, 5, (some .int), 0, 3, 9, 851, 850, 0, 71),
  (⟨"EggsLast$Clues", "isWeighed", "(LEggsLast$Shop;II[II)Z"⟩, prog_5_method_4_code, 7, (some .boolean), 0, 5, 9, 855, 854, 0, 71),
  (⟨"EggsLast", "heavy", "(III)I"⟩, prog_1_method_28_code, 5, (some .int), 1, 4, 7, 860, 858, 859, 58),
  (⟨"EggsLast$Clues", "weights", "(LEggsLast$Shop;I[II)I"⟩, prog_5_method_3_code, 6, (some .int), 0, 4, 9, 863, 862, 0, 71),
  (⟨"EggsLast", "who", "(IIII)I"⟩, prog_1_method_29_code, 7, (some .int), 1, 5, 7, 867, 865, 866, 58),
  (⟨"EggsLast$Clues", "softs", "(LEggsLast$Shop;I[II)I"⟩, prog_5_method_5_code, 6, (some .int), 0, 4, 9, 870, 869, 0, 71),
  (⟨"EggsLast$Clues", "isBroken", "(LEggsLast$Shop;[II)Z"⟩, prog_5_method_7_code, 5, (some .boolean), 0, 3, 9, 873, 872, 0, 71),
  (⟨"EggsLast$Clues", "kinds", "(LEggsLast$Shop;I[II)I"⟩, prog_5_method_6_code, 6, (some .int), 0, 4, 9, 877, 876, 0, 71),
  (⟨"EggsLast", "colds", "(I)I"⟩, prog_1_method_30_code, 2, (some .int), 1, 2, 7, 881, 879, 880, 58),
  (⟨"EggsLast$Shop", "coldPairs", "()I"⟩, prog_9_method_34_code, 4, (some .int), 1, 1, 4, 885, 883, 884, 61),
  (⟨"EggsLast$Shop", "isColdPair", "(II)Z"⟩, prog_9_method_36_code, 3, (some .boolean), 1, 3, 4, 889, 888, 25, 61),
  (⟨"EggsLast$Shop", "firstColdPair", "()I"⟩, prog_9_method_35_code, 3, (some .int), 1, 1, 4, 893, 891, 892, 61)]
def pm_mt4 : List pm_T := [(⟨"EggsLast", "tears", "(III)J"⟩, prog_1_method_31_code, 4, (some .long), 1, 4, 7, 897, 895, 896, 58),
  (⟨"EggsLast$Odds", "part", "(LEggsLast$Shop;III)J"⟩, prog_7_method_2_code, 9, (some .long), 0, 4, 11, 902, 901, 0, 72),
  (⟨"EggsLast$Odds", "casesOf", "(LEggsLast$Shop;II)J"⟩, prog_7_method_4_code, 6, (some .long), 0, 3, 11, 905, 904, 0, 72),
  (⟨"EggsLast$Odds", "comeHome", "(LEggsLast$Shop;I)I"⟩, prog_7_method_5_code, 5, (some .int), 0, 2, 11, 908, 907, 0, 72),
  (⟨"EggsLast$Odds", "casesIn", "(LEggsLast$Shop;II)J"⟩, prog_7_method_6_code, 7, (some .long), 0, 3, 11, 912, 911, 0, 72),
  (⟨"EggsLast$Odds", "tearingCases", "(LEggsLast$Shop;II)I"⟩, prog_7_method_7_code, 3, (some .int), 0, 3, 11, 915, 914, 0, 72),
  (⟨"EggsLast$Odds", "allCases", "(LEggsLast$Shop;)J"⟩, prog_7_method_3_code, 4, (some .long), 0, 1, 11, 920, 919, 0, 72),
  (⟨"EggsLast", "drawn", "(III)I"⟩, prog_1_method_32_code, 4, (some .int), 1, 4, 7, 927, 925, 926, 58),
  (⟨"EggsLast$Shop", "goTrip", "(II)V"⟩, prog_9_method_13_code, 7, none, 1, 3, 4, 932, 930, 931, 61),
  (⟨"EggsLast$Shop", "weighsInAll", "()I"⟩, prog_9_method_29_code, 3, (some .int), 1, 1, 4, 942, 940, 941, 61),
  (⟨"EggsLast", "image", "(I)I"⟩, prog_1_method_33_code, 2, (some .int), 1, 2, 7, 946, 944, 945, 58),
  (⟨"EggsLast", "restore", "(I)I"⟩, prog_1_method_34_code, 2, (some .int), 1, 2, 7, 950, 948, 949, 58),
  (⟨"EggsLast", "kind", "(I)I"⟩, prog_1_method_35_code, 2, (some .int), 1, 2, 7, 954, 952, 953, 58),
  (⟨"EggsLast", "as", "(II)I"⟩, prog_1_method_36_code, 3, (some .int), 1, 3, 7, 958, 956, 957, 58),
  (⟨"EggsLast$Kinds", "isA", "(II)Z"⟩, prog_6_method_3_code, 4, (some .boolean), 0, 2, 10, 961, 960, 0, 68),
  (⟨"EggsLast", "ask", "(II)I"⟩, prog_1_method_37_code, 3, (some .int), 1, 3, 7, 967, 965, 966, 58),
  (⟨"EggsLast$Asks", "answer", "(LEggsLast$Shop;II)I"⟩, prog_3_method_2_code, 5, (some .int), 1, 4, 1, 971, 969, 970, 65),
  (⟨"EggsLast$Asks", "gives", "(LEggsLast$Asks;II)I"⟩, prog_3_method_4_code, 4, (some .int), 0, 3, 1, 980, 979, 0, 65),
  (⟨"EggsLast$Asks", "leave", "(I)V"⟩, prog_3_method_5_code, 2, none, 1, 2, 1, 984, 983, 26, 65),
  (⟨"EggsLast", "trace", "(I)I"⟩, prog_1_method_38_code, 2, (some .int), 1, 2, 7, 988, 986, 987, 58),
  (⟨"EggsLast$Asks", "traced", "(I)I"⟩, prog_3_method_3_code, 2, (some .int), 1, 2, 1, 992, 990, 991, 65),
  (⟨"EggsLast", "count", "(I)I"⟩, prog_1_method_39_code, 2, (some .int), 1, 2, 7, 997, 995, 996, 58),
  (⟨"EggsLast$Rows", "present", "()I"⟩, prog_8_method_8_code, 3, (some .int), 1, 1, 3, 1001, 999, 1000, 59),
  (⟨"EggsLast", "status", "()I"⟩, prog_1_method_40_code, 1, (some .int), 1, 1, 7, 1005, 1003, 1004, 58),
  (⟨"EggsLastModel", "<init>", "()V"⟩, prog_13_method_1_code, 1, none, 2, 1, 8, 1010, 1009, 0, 66),
  (⟨"EggsLastModel", "row", "(III)I"⟩, prog_13_method_6_code, 5, (some .int), 1, 4, 8, 1107, 1105, 1106, 66),
  (⟨"EggsLastModel", "isRow", "(I)Z"⟩, prog_13_method_5_code, 1, (some .boolean), 0, 1, 8, 1110, 1109, 0, 66),
  (⟨"EggsLastModel", "in", "(JJJ)Z"⟩, prog_13_method_3_code, 6, (some .boolean), 0, 3, 8, 1114, 1113, 0, 66),
  (⟨"EggsLastModel", "finding", "(I)I"⟩, prog_13_method_4_code, 2, (some .int), 1, 2, 8, 1120, 1119, 27, 66),
  (⟨"EggsLastModel", "set", "(III)I"⟩, prog_13_method_7_code, 4, (some .int), 1, 4, 8, 1125, 1123, 1124, 66),
  (⟨"EggsLastModel", "copy", "(IIIII)I"⟩, prog_13_method_8_code, 9, (some .int), 1, 6, 8, 1129, 1127, 1128, 66),
  (⟨"EggsLastModel", "drop", "(I)I"⟩, prog_13_method_9_code, 2, (some .int), 1, 2, 8, 1133, 1131, 1132, 66)]
def pm_mt5 : List pm_T := [(⟨"EggsLastModel", "feed", "(I)I"⟩, prog_13_method_10_code, 2, (some .int), 1, 2, 8, 1137, 1135, 1136, 66),
  (⟨"EggsLastModel", "fault", "()I"⟩, prog_13_method_19_code, 1, (some .int), 1, 1, 8, 1143, 1141, 1142, 66),
  (⟨"EggsLastModel", "shop", "()I"⟩, prog_13_method_23_code, 2, (some .int), 1, 1, 8, 1147, 1145, 1146, 66),
  (⟨"EggsLastModel", "begin", "()V"⟩, prog_13_method_17_code, 1, none, 1, 1, 8, 1151, 1150, 28, 66),
  (⟨"EggsLastModel", "nextToken", "()V"⟩, prog_13_method_12_code, 1, none, 1, 1, 8, 1155, 1154, 29, 66),
  (⟨"EggsLastModel", "isLetter", "(I)Z"⟩, prog_13_method_14_code, 2, (some .boolean), 1, 2, 8, 1164, 1163, 30, 66),
  (⟨"EggsLastModel", "must", "(Z)V"⟩, prog_13_method_13_code, 2, none, 1, 2, 8, 1168, 1167, 31, 66),
  (⟨"EggsLastModel", "bad", "(I)V"⟩, prog_13_method_11_code, 2, none, 1, 2, 8, 1172, 1171, 32, 66),
  (⟨"EggsLastModel", "number", "(II)I"⟩, prog_13_method_15_code, 4, (some .int), 1, 3, 8, 1176, 1175, 33, 66),
  (⟨"EggsLastModel", "mustSign", "(I)V"⟩, prog_13_method_16_code, 2, none, 1, 2, 8, 1180, 1179, 34, 66),
  (⟨"EggsLastModel", "isSort", "()Z"⟩, prog_13_method_21_code, 1, (some .boolean), 1, 1, 8, 1184, 1183, 35, 66),
  (⟨"EggsLastModel", "kindBy", "(I)I"⟩, prog_13_method_20_code, 1, (some .int), 0, 1, 8, 1187, 1186, 0, 66),
  (⟨"EggsLastModel", "readThing", "()V"⟩, prog_13_method_22_code, 5, none, 1, 1, 8, 1191, 1190, 36, 66),
  (⟨"EggsLastModel", "failed", "()Z"⟩, prog_13_method_18_code, 1, (some .boolean), 1, 1, 8, 1195, 1194, 37, 66),
  (⟨"EggsLastModel", "beeps", "(I)I"⟩, prog_13_method_48_code, 3, (some .int), 1, 2, 8, 1200, 1198, 1199, 66),
  (⟨"EggsLastModel", "isThere", "()Z"⟩, prog_13_method_24_code, 1, (some .boolean), 1, 1, 8, 1204, 1203, 38, 66),
  (⟨"EggsLastModel", "keep", "()V"⟩, prog_13_method_47_code, 2, none, 1, 1, 8, 1210, 1209, 39, 66),
  (⟨"EggsLastModel", "beep", "([I)V"⟩, prog_13_method_42_code, 2, none, 0, 1, 8, 1213, 1212, 0, 66),
  (⟨"EggsLastModel", "firstOf", "([II)I"⟩, prog_13_method_34_code, 5, (some .int), 0, 2, 8, 1216, 1215, 0, 66),
  (⟨"EggsLastModel", "of", "([III)I"⟩, prog_13_method_28_code, 3, (some .int), 0, 3, 8, 1219, 1218, 0, 66),
  (⟨"EggsLastModel", "comes", "([III)V"⟩, prog_13_method_40_code, 3, none, 0, 3, 8, 1222, 1221, 0, 66),
  (⟨"EggsLastModel", "things", "([II)I"⟩, prog_13_method_33_code, 4, (some .int), 0, 2, 8, 1225, 1224, 0, 66),
  (⟨"EggsLastModel", "bits", "(I)I"⟩, prog_13_method_27_code, 3, (some .int), 0, 1, 8, 1228, 1227, 0, 66),
  (⟨"EggsLastModel", "pack", "(I)I"⟩, prog_13_method_49_code, 3, (some .int), 1, 2, 8, 1232, 1230, 1231, 66),
  (⟨"EggsLastModel", "isBag", "(I)Z"⟩, prog_13_method_26_code, 2, (some .boolean), 1, 2, 8, 1236, 1235, 40, 66),
  (⟨"EggsLastModel", "topOf", "([II)I"⟩, prog_13_method_35_code, 5, (some .int), 0, 2, 8, 1239, 1238, 0, 66),
  (⟨"EggsLastModel", "packs", "([III)V"⟩, prog_13_method_41_code, 3, none, 0, 3, 8, 1242, 1241, 0, 66),
  (⟨"EggsLastModel", "crush", "([I)V"⟩, prog_13_method_39_code, 2, none, 0, 1, 8, 1245, 1244, 0, 66),
  (⟨"EggsLastModel", "loadOf", "([II)I"⟩, prog_13_method_32_code, 4, (some .int), 0, 2, 8, 1248, 1247, 0, 66),
  (⟨"EggsLastModel", "isAbove", "([III)Z"⟩, prog_13_method_31_code, 3, (some .boolean), 0, 3, 8, 1251, 1250, 0, 66),
  (⟨"EggsLastModel", "presses", "([II)I"⟩, prog_13_method_29_code, 3, (some .int), 0, 2, 8, 1254, 1253, 0, 66),
  (⟨"EggsLastModel", "bears", "([II)I"⟩, prog_13_method_30_code, 3, (some .int), 0, 2, 8, 1257, 1256, 0, 66)]
def pm_mt6 : List pm_T := [(⟨"EggsLastModel", "layBy", "()I"⟩, prog_13_method_50_code, 2, (some .int), 1, 1, 8, 1261, 1259, 1260, 66),
  (⟨"EggsLastModel", "putIn", "(II)I"⟩, prog_13_method_51_code, 4, (some .int), 1, 3, 8, 1265, 1263, 1264, 66),
  (⟨"EggsLastModel", "isThing", "(I)Z"⟩, prog_13_method_25_code, 2, (some .boolean), 1, 2, 8, 1269, 1268, 41, 66),
  (⟨"EggsLastModel", "takeOut", "(I)I"⟩, prog_13_method_52_code, 3, (some .int), 1, 2, 8, 1273, 1271, 1272, 66),
  (⟨"EggsLastModel", "swap", "()I"⟩, prog_13_method_53_code, 5, (some .int), 1, 1, 8, 1277, 1275, 1276, 66),
  (⟨"EggsLastModel", "undo", "()I"⟩, prog_13_method_54_code, 2, (some .int), 1, 1, 8, 1281, 1279, 1280, 66),
  (⟨"EggsLastModel", "thing", "(II)I"⟩, prog_13_method_55_code, 3, (some .int), 1, 3, 8, 1285, 1283, 1284, 66),
  (⟨"EggsLastModel", "isWarm", "([II)Z"⟩, prog_13_method_43_code, 2, (some .boolean), 0, 2, 8, 1288, 1287, 0, 66),
  (⟨"EggsLastModel", "bag", "(II)I"⟩, prog_13_method_56_code, 3, (some .int), 1, 3, 8, 1292, 1290, 1291, 66),
  (⟨"EggsLastModel", "weighs", "([II)I"⟩, prog_13_method_36_code, 4, (some .int), 0, 2, 8, 1296, 1295, 0, 66),
  (⟨"EggsLastModel", "isTorn", "([II)Z"⟩, prog_13_method_37_code, 2, (some .boolean), 0, 2, 8, 1299, 1298, 0, 66),
  (⟨"EggsLastModel", "stand", "(I)I"⟩, prog_13_method_57_code, 4, (some .int), 1, 2, 8, 1303, 1301, 1302, 66),
  (⟨"EggsLastModel", "broken", "([I)I"⟩, prog_13_method_38_code, 3, (some .int), 0, 1, 8, 1306, 1305, 0, 66),
  (⟨"EggsLastModel", "least", "(I)I"⟩, prog_13_method_63_code, 3, (some .int), 1, 2, 8, 1310, 1308, 1309, 66),
  (⟨"EggsLastModel", "seekLeast", "(I)V"⟩, prog_13_method_62_code, 7, none, 1, 2, 8, 1315, 1314, 42, 66),
  (⟨"EggsLastModel", "lineUp", "(I)V"⟩, prog_13_method_58_code, 8, none, 1, 2, 8, 1319, 1318, 43, 66),
  (⟨"EggsLastModel", "waysOf", "()I"⟩, prog_13_method_59_code, 3, (some .int), 1, 1, 8, 1323, 1322, 44, 66),
  (⟨"EggsLastModel", "layWay", "(I)V"⟩, prog_13_method_61_code, 3, none, 1, 2, 8, 1327, 1326, 45, 66),
  (⟨"EggsLastModel", "layThen", "()V"⟩, prog_13_method_44_code, 2, none, 1, 1, 8, 1331, 1330, 46, 66),
  (⟨"EggsLastModel", "bagBy", "(II)I"⟩, prog_13_method_60_code, 5, (some .int), 1, 3, 8, 1335, 1334, 47, 66),
  (⟨"EggsLastModel", "heaviest", "([I)I"⟩, prog_13_method_46_code, 3, (some .int), 0, 1, 8, 1338, 1337, 0, 66),
  (⟨"EggsLastModel", "torn", "()I"⟩, prog_13_method_64_code, 6, (some .int), 1, 1, 8, 1342, 1340, 1341, 66),
  (⟨"EggsLastModel", "give", "(I)I"⟩, prog_13_method_65_code, 6, (some .int), 1, 2, 8, 1346, 1344, 1345, 66),
  (⟨"EggsLastModel", "order", "(II)I"⟩, prog_13_method_67_code, 8, (some .int), 1, 3, 8, 1350, 1348, 1349, 66),
  (⟨"EggsLastModel", "nextRow", "(I)Z"⟩, prog_13_method_66_code, 7, (some .boolean), 1, 2, 8, 1354, 1353, 48, 66),
  (⟨"EggsLastModel", "top", "(I)I"⟩, prog_13_method_68_code, 4, (some .int), 1, 2, 8, 1358, 1356, 1357, 66),
  (⟨"EggsLastModel", "spare", "(I)I"⟩, prog_13_method_69_code, 3, (some .int), 1, 2, 8, 1362, 1360, 1361, 66),
  (⟨"EggsLastModel", "beside", "(II)I"⟩, prog_13_method_70_code, 6, (some .int), 1, 3, 8, 1366, 1364, 1365, 66),
  (⟨"EggsLastModel", "even", "()I"⟩, prog_13_method_71_code, 3, (some .int), 1, 1, 8, 1370, 1368, 1369, 66),
  (⟨"EggsLastModel", "astray", "(II)I"⟩, prog_13_method_74_code, 6, (some .int), 1, 3, 8, 1374, 1372, 1373, 66),
  (⟨"EggsLastModel", "rowFound", "(III)I"⟩, prog_13_method_72_code, 4, (some .int), 1, 4, 8, 1378, 1377, 49, 66),
  (⟨"EggsLastModel", "weighSo", "(I)Z"⟩, prog_13_method_73_code, 4, (some .boolean), 1, 2, 8, 1382, 1381, 50, 66)]
def pm_mt7 : List pm_T := [(⟨"EggsLastModel", "heavy", "(III)I"⟩, prog_13_method_75_code, 7, (some .int), 1, 4, 8, 1386, 1384, 1385, 66),
  (⟨"EggsLastModel", "who", "(IIII)I"⟩, prog_13_method_77_code, 8, (some .int), 1, 5, 8, 1390, 1388, 1389, 66),
  (⟨"EggsLastModel", "brokenSo", "(I)Z"⟩, prog_13_method_76_code, 4, (some .boolean), 1, 2, 8, 1394, 1393, 51, 66),
  (⟨"EggsLastModel", "colds", "(I)I"⟩, prog_13_method_78_code, 7, (some .int), 1, 2, 8, 1398, 1396, 1397, 66),
  (⟨"EggsLastModel", "tears", "(III)J"⟩, prog_13_method_79_code, 16, (some .long), 1, 4, 8, 1402, 1400, 1401, 66),
  (⟨"EggsLastModel", "drawn", "(III)I"⟩, prog_13_method_80_code, 8, (some .int), 1, 4, 8, 1409, 1407, 1408, 66),
  (⟨"EggsLastModel", "allWeigh", "([I)I"⟩, prog_13_method_45_code, 3, (some .int), 0, 1, 8, 1416, 1415, 0, 66),
  (⟨"EggsLastModel", "image", "(I)I"⟩, prog_13_method_81_code, 3, (some .int), 1, 2, 8, 1420, 1418, 1419, 66),
  (⟨"EggsLastModel", "restore", "(I)I"⟩, prog_13_method_82_code, 3, (some .int), 1, 2, 8, 1424, 1422, 1423, 66),
  (⟨"EggsLastModel", "kind", "(I)I"⟩, prog_13_method_84_code, 2, (some .int), 1, 2, 8, 1428, 1426, 1427, 66),
  (⟨"EggsLastModel", "as", "(II)I"⟩, prog_13_method_85_code, 3, (some .int), 1, 3, 8, 1432, 1430, 1431, 66),
  (⟨"EggsLastModel", "isOf", "(II)Z"⟩, prog_13_method_83_code, 2, (some .boolean), 0, 2, 8, 1436, 1435, 0, 66),
  (⟨"EggsLastModel", "ask", "(II)I"⟩, prog_13_method_91_code, 3, (some .int), 1, 3, 8, 1440, 1438, 1439, 66),
  (⟨"EggsLastModel", "sizeOf", "(I)I"⟩, prog_13_method_90_code, 4, (some .int), 1, 2, 8, 1444, 1443, 52, 66),
  (⟨"EggsLastModel", "softSize", "(I)I"⟩, prog_13_method_88_code, 4, (some .int), 1, 2, 8, 1448, 1447, 53, 66),
  (⟨"EggsLastModel", "began", "(I)V"⟩, prog_13_method_86_code, 2, none, 1, 2, 8, 1452, 1451, 54, 66),
  (⟨"EggsLastModel", "plainSize", "(I)I"⟩, prog_13_method_87_code, 2, (some .int), 1, 2, 8, 1456, 1455, 55, 66),
  (⟨"EggsLastModel", "markOf", "(I)I"⟩, prog_13_method_89_code, 4, (some .int), 1, 2, 8, 1460, 1459, 56, 66),
  (⟨"EggsLastModel", "trace", "(I)I"⟩, prog_13_method_92_code, 2, (some .int), 1, 2, 8, 1464, 1462, 1463, 66),
  (⟨"EggsLastModel", "count", "(I)I"⟩, prog_13_method_93_code, 4, (some .int), 1, 2, 8, 1468, 1466, 1467, 66),
  (⟨"EggsLastModel", "status", "()I"⟩, prog_13_method_94_code, 1, (some .int), 1, 1, 8, 1472, 1470, 1471, 66)]
def pm_mt : List pm_T := pm_mt0 ++ pm_mt1 ++ pm_mt2 ++ pm_mt3 ++ pm_mt4 ++ pm_mt5 ++ pm_mt6 ++ pm_mt7
