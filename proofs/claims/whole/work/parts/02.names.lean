/-! names, fields, links and methods, by program -/
def pm_cn : Nat → String
  | 0 => "EggsLast$Acts"
  | 1 => "EggsLast$Asks"
  | 2 => "EggsLast$BeltOrder"
  | 3 => "EggsLast$Rows"
  | 4 => "EggsLast$Shop"
  | 5 => "EggsLast$Tape"
  | 6 => "EggsLast$Ways"
  | 7 => "EggsLast"
  | 8 => "EggsLastModel"
  | 9 => "EggsLast$Clues"
  | 10 => "EggsLast$Kinds"
  | 11 => "EggsLast$Odds"
  | 12 => "EggsLastLaw"
  | 13 => "java/lang/Integer"
  | 14 => "java/lang/Math"
  | _ => ""
def F_Acts : u_T := fun k => match k with
  | 0 => ("EggsLast$Acts", "sorts", "[I", true)
  | 1 => ("EggsLast$Acts", "moved", "[I", true)
  | 2 => ("EggsLast$Acts", "from", "[I", true)
  | 3 => ("EggsLast$Acts", "crushedAhead", "[I", true)
  | 4 => ("EggsLast$Acts", "oldest", "I", false)
  | _ => ("EggsLast$Acts", "kept", "I", false)
def t_Acts : Nat → FieldType := fun k => match k with
  | 0 => .array .int
  | 1 => .array .int
  | 2 => .array .int
  | 3 => .array .int
  | 4 => .int
  | _ => .int
theorem n_Acts : ∀ a, a < 6 → ∀ b, b < 6 → a ≠ b → (F_Acts a).2.1 ≠ (F_Acts b).2.1 := by decide +kernel
theorem t_Acts_ok : ∀ k, k < 6 → parseFieldDescriptor (F_Acts k).2.2.1 = some (t_Acts k) := by decide +kernel
def F_Asks : u_T := fun k => match k with
  | 0 => ("EggsLast$Asks", "bodies", "[I", true)
  | 1 => ("EggsLast$Asks", "left", "I", false)
  | 2 => ("EggsLast$Asks", "number", "I", false)
  | 3 => ("EggsLast$Asks", "weight", "I", false)
  | 4 => ("EggsLast$Asks", "load", "I", false)
  | 5 => ("EggsLast$Asks", "sizeBody", "I", false)
  | _ => ("EggsLast$Asks", "markBody", "I", false)
def t_Asks : Nat → FieldType := fun k => match k with
  | 0 => .array .int
  | 1 => .int
  | 2 => .int
  | 3 => .int
  | 4 => .int
  | 5 => .int
  | _ => .int
theorem n_Asks : ∀ a, a < 7 → ∀ b, b < 7 → a ≠ b → (F_Asks a).2.1 ≠ (F_Asks b).2.1 := by decide +kernel
theorem t_Asks_ok : ∀ k, k < 7 → parseFieldDescriptor (F_Asks k).2.2.1 = some (t_Asks k) := by decide +kernel
def F_BeltOrder : u_T := fun k => match k with
  | 0 => ("EggsLast$BeltOrder", "fewest", "[I", true)
  | 1 => ("EggsLast$BeltOrder", "presses", "[I", true)
  | _ => ("EggsLast$BeltOrder", "belt", "I", false)
def t_BeltOrder : Nat → FieldType := fun k => match k with
  | 0 => .array .int
  | 1 => .array .int
  | _ => .int
theorem n_BeltOrder : ∀ a, a < 3 → ∀ b, b < 3 → a ≠ b → (F_BeltOrder a).2.1 ≠ (F_BeltOrder b).2.1 := by decide +kernel
theorem t_BeltOrder_ok : ∀ k, k < 3 → parseFieldDescriptor (F_BeltOrder k).2.2.1 = some (t_BeltOrder k) := by decide +kernel
def F_Rows : u_T := fun k => match k with
  | 0 => ("EggsLast$Rows", "items", "[[I", true)
  | 1 => ("EggsLast$Rows", "lanes", "[I", true)
  | _ => ("EggsLast$Rows", "sizes", "[I", true)
def t_Rows : Nat → FieldType := fun k => match k with
  | 0 => .array (.array .int)
  | 1 => .array .int
  | _ => .array .int
theorem n_Rows : ∀ a, a < 3 → ∀ b, b < 3 → a ≠ b → (F_Rows a).2.1 ≠ (F_Rows b).2.1 := by decide +kernel
theorem t_Rows_ok : ∀ k, k < 3 → parseFieldDescriptor (F_Rows k).2.2.1 = some (t_Rows k) := by decide +kernel
def F_Shop : u_T := fun k => match k with
  | 0 => ("EggsLast$Shop", "bags", "I", false)
  | 1 => ("EggsLast$Shop", "holds", "I", false)
  | 2 => ("EggsLast$Shop", "warmth", "I", false)
  | 3 => ("EggsLast$Shop", "things", "I", false)
  | 4 => ("EggsLast$Shop", "beep", "I", false)
  | 5 => ("EggsLast$Shop", "crushed", "I", false)
  | 6 => ("EggsLast$Shop", "kind", "[I", true)
  | 7 => ("EggsLast$Shop", "weight", "[I", true)
  | 8 => ("EggsLast$Shop", "soft", "[I", true)
  | 9 => ("EggsLast$Shop", "where", "[I", true)
  | 10 => ("EggsLast$Shop", "height", "[I", true)
  | _ => ("EggsLast$Shop", "came", "[I", true)
def t_Shop : Nat → FieldType := fun k => match k with
  | 0 => .int
  | 1 => .int
  | 2 => .int
  | 3 => .int
  | 4 => .int
  | 5 => .int
  | 6 => .array .int
  | 7 => .array .int
  | 8 => .array .int
  | 9 => .array .int
  | 10 => .array .int
  | _ => .array .int
theorem n_Shop : ∀ a, a < 12 → ∀ b, b < 12 → a ≠ b → (F_Shop a).2.1 ≠ (F_Shop b).2.1 := by decide +kernel
theorem t_Shop_ok : ∀ k, k < 12 → parseFieldDescriptor (F_Shop k).2.2.1 = some (t_Shop k) := by decide +kernel
def F_Tape : u_T := fun k => match k with
  | 0 => ("EggsLast$Tape", "bytes", "[I", true)
  | 1 => ("EggsLast$Tape", "length", "I", false)
  | 2 => ("EggsLast$Tape", "place", "I", false)
  | _ => ("EggsLast$Tape", "fault", "I", false)
def t_Tape : Nat → FieldType := fun k => match k with
  | 0 => .array .int
  | 1 => .int
  | 2 => .int
  | _ => .int
theorem n_Tape : ∀ a, a < 4 → ∀ b, b < 4 → a ≠ b → (F_Tape a).2.1 ≠ (F_Tape b).2.1 := by decide +kernel
theorem t_Tape_ok : ∀ k, k < 4 → parseFieldDescriptor (F_Tape k).2.2.1 = some (t_Tape k) := by decide +kernel
def F_Ways : u_T := fun k => match k with
  | 0 => ("EggsLast$Ways", "queue", "[I", true)
  | 1 => ("EggsLast$Ways", "packed", "[I", true)
  | 2 => ("EggsLast$Ways", "tried", "[I", true)
  | 3 => ("EggsLast$Ways", "best", "[I", true)
  | 4 => ("EggsLast$Ways", "press", "[I", true)
  | 5 => ("EggsLast$Ways", "spare", "[I", true)
  | 6 => ("EggsLast$Ways", "weight", "[I", true)
  | 7 => ("EggsLast$Ways", "inBag", "[I", true)
  | 8 => ("EggsLast$Ways", "weighs", "[I", true)
  | 9 => ("EggsLast$Ways", "bags", "I", false)
  | 10 => ("EggsLast$Ways", "holds", "I", false)
  | 11 => ("EggsLast$Ways", "queued", "I", false)
  | 12 => ("EggsLast$Ways", "packedMany", "I", false)
  | 13 => ("EggsLast$Ways", "fewest", "I", false)
  | 14 => ("EggsLast$Ways", "lightest", "I", false)
  | 15 => ("EggsLast$Ways", "given", "I", false)
  | _ => ("EggsLast$Ways", "givenFewest", "I", false)
def t_Ways : Nat → FieldType := fun k => match k with
  | 0 => .array .int
  | 1 => .array .int
  | 2 => .array .int
  | 3 => .array .int
  | 4 => .array .int
  | 5 => .array .int
  | 6 => .array .int
  | 7 => .array .int
  | 8 => .array .int
  | 9 => .int
  | 10 => .int
  | 11 => .int
  | 12 => .int
  | 13 => .int
  | 14 => .int
  | 15 => .int
  | _ => .int
theorem n_Ways : ∀ a, a < 17 → ∀ b, b < 17 → a ≠ b → (F_Ways a).2.1 ≠ (F_Ways b).2.1 := by decide +kernel
theorem t_Ways_ok : ∀ k, k < 17 → parseFieldDescriptor (F_Ways k).2.2.1 = some (t_Ways k) := by decide +kernel
def F_Eggs : u_T := fun k => match k with
  | 0 => ("EggsLast", "rows", "LEggsLast$Rows;", true)
  | 1 => ("EggsLast", "tape", "LEggsLast$Tape;", true)
  | 2 => ("EggsLast", "shop", "LEggsLast$Shop;", true)
  | 3 => ("EggsLast", "trial", "LEggsLast$Shop;", true)
  | 4 => ("EggsLast", "images", "[LEggsLast$Shop;", true)
  | 5 => ("EggsLast", "acts", "LEggsLast$Acts;", true)
  | 6 => ("EggsLast", "ways", "LEggsLast$Ways;", true)
  | 7 => ("EggsLast", "beltOrder", "LEggsLast$BeltOrder;", true)
  | 8 => ("EggsLast", "asks", "LEggsLast$Asks;", true)
  | 9 => ("EggsLast", "latestFault", "I", false)
  | _ => ("EggsLast", "latestFinding", "I", false)
def t_Eggs : Nat → FieldType := fun k => match k with
  | 0 => .object "EggsLast$Rows"
  | 1 => .object "EggsLast$Tape"
  | 2 => .object "EggsLast$Shop"
  | 3 => .object "EggsLast$Shop"
  | 4 => .array (.object "EggsLast$Shop")
  | 5 => .object "EggsLast$Acts"
  | 6 => .object "EggsLast$Ways"
  | 7 => .object "EggsLast$BeltOrder"
  | 8 => .object "EggsLast$Asks"
  | 9 => .int
  | _ => .int
theorem n_Eggs : ∀ a, a < 11 → ∀ b, b < 11 → a ≠ b → (F_Eggs a).2.1 ≠ (F_Eggs b).2.1 := by decide +kernel
theorem t_Eggs_ok : ∀ k, k < 11 → parseFieldDescriptor (F_Eggs k).2.2.1 = some (t_Eggs k) := by decide +kernel
def F_Model : u_T := fun k => match k with
  | 0 => ("EggsLastModel", "thrown", "I", false)
  | 1 => ("EggsLastModel", "status", "I", false)
  | 2 => ("EggsLastModel", "lane", "[I", true)
  | 3 => ("EggsLastModel", "many", "[I", true)
  | 4 => ("EggsLastModel", "item", "[I", true)
  | 5 => ("EggsLastModel", "shop", "[I", true)
  | 6 => ("EggsLastModel", "fresh", "[I", true)
  | 7 => ("EggsLastModel", "then", "[I", true)
  | 8 => ("EggsLastModel", "was", "[I", true)
  | 9 => ("EggsLastModel", "acts", "I", false)
  | 10 => ("EggsLastModel", "tape", "[I", true)
  | 11 => ("EggsLastModel", "taped", "I", false)
  | 12 => ("EggsLastModel", "cursor", "I", false)
  | 13 => ("EggsLastModel", "start", "I", false)
  | 14 => ("EggsLastModel", "token", "I", false)
  | 15 => ("EggsLastModel", "value", "I", false)
  | 16 => ("EggsLastModel", "fault", "I", false)
  | 17 => ("EggsLastModel", "faultAt", "I", false)
  | 18 => ("EggsLastModel", "latest", "I", false)
  | 19 => ("EggsLastModel", "packed", "[I", true)
  | 20 => ("EggsLastModel", "many0", "I", false)
  | 21 => ("EggsLastModel", "bestWay", "I", false)
  | 22 => ("EggsLastModel", "fewest", "I", false)
  | 23 => ("EggsLastModel", "lightest", "I", false)
  | 24 => ("EggsLastModel", "tried", "[I", true)
  | 25 => ("EggsLastModel", "best", "[I", true)
  | 26 => ("EggsLastModel", "isKept", "[Z", true)
  | 27 => ("EggsLastModel", "kept", "[I", true)
  | 28 => ("EggsLastModel", "trace", "[I", true)
  | _ => ("EggsLastModel", "traced", "I", false)
def t_Model : Nat → FieldType := fun k => match k with
  | 0 => .int
  | 1 => .int
  | 2 => .array .int
  | 3 => .array .int
  | 4 => .array .int
  | 5 => .array .int
  | 6 => .array .int
  | 7 => .array .int
  | 8 => .array .int
  | 9 => .int
  | 10 => .array .int
  | 11 => .int
  | 12 => .int
  | 13 => .int
  | 14 => .int
  | 15 => .int
  | 16 => .int
  | 17 => .int
  | 18 => .int
  | 19 => .array .int
  | 20 => .int
  | 21 => .int
  | 22 => .int
  | 23 => .int
  | 24 => .array .int
  | 25 => .array .int
  | 26 => .array .boolean
  | 27 => .array .int
  | 28 => .array .int
  | _ => .int
theorem n_Model : ∀ a, a < 30 → ∀ b, b < 30 → a ≠ b → (F_Model a).2.1 ≠ (F_Model b).2.1 := by decide +kernel
theorem t_Model_ok : ∀ k, k < 30 → parseFieldDescriptor (F_Model k).2.2.1 = some (t_Model k) := by decide +kernel
/-- the classes whose objects there are -/
abbrev pm_cl : List vw_C := [("EggsLast$Acts", F_Acts, 6), ("EggsLast$Asks", F_Asks, 7), ("EggsLast$BeltOrder", F_BeltOrder, 3), ("EggsLast$Rows", F_Rows, 3), ("EggsLast$Shop", F_Shop, 12), ("EggsLast$Tape", F_Tape, 4), ("EggsLast$Ways", F_Ways, 17), ("EggsLast", F_Eggs, 11), ("EggsLastModel", F_Model, 30)]
def pm_gt : List Cond := lw_tbl.filter goodWord
/-- links of fields: index, class, place, a nest mate's, 0 an int or 1 a reference, final, place in lw_tbl -/
def pm_fl : Nat → List (Nat × Nat × Nat × Bool × Nat × Bool × Nat)
  | 0 => [(11, 0, 0, false, 1, true, 204), (15, 0, 1, false, 1, true, 205), (18, 0, 2, false, 1, true, 206), (21, 0, 3, false, 1, true, 207), (24, 0, 5, false, 0, false, 209), (28, 0, 4, false, 0, false, 208), (32, 4, 9, true, 1, true, 165), (37, 4, 5, true, 0, false, 147), (44, 4, 4, true, 0, false, 143)]
  | 1 => [(11, 1, 0, false, 1, true, 308), (15, 4, 6, true, 1, true, 152), (23, 1, 2, false, 0, false, 310), (27, 4, 7, true, 1, true, 156), (30, 1, 3, false, 0, false, 311), (36, 1, 4, false, 0, false, 312), (42, 1, 5, false, 0, false, 313), (48, 1, 6, false, 0, false, 314), (51, 1, 1, false, 0, false, 309)]
  | 2 => [(11, 2, 0, false, 1, true, 292), (15, 2, 1, false, 1, true, 293), (24, 2, 2, false, 0, false, 294), (32, 4, 3, true, 0, false, 138), (55, 4, 5, true, 0, false, 148), (58, 4, 9, true, 1, true, 168)]
  | 3 => [(13, 3, 0, false, 1, true, 89), (16, 3, 1, false, 1, true, 91), (20, 3, 2, false, 1, true, 92)]
  | 4 => [(9, 4, 6, false, 1, true, 151), (15, 4, 7, false, 1, true, 155), (18, 4, 8, false, 1, true, 160), (21, 4, 9, false, 1, true, 163), (24, 4, 10, false, 1, true, 170), (27, 4, 11, false, 1, true, 171), (30, 4, 0, false, 0, false, 128), (34, 4, 3, false, 0, false, 137), (37, 4, 1, false, 0, false, 133), (40, 4, 2, false, 0, false, 135), (43, 4, 4, false, 0, false, 144), (46, 4, 5, false, 0, false, 149)]
  | 5 => [(11, 5, 0, false, 1, true, 107), (15, 5, 1, false, 0, false, 108), (20, 5, 2, false, 0, false, 110), (23, 5, 3, false, 0, false, 112), (50, 4, 3, true, 0, false, 140)]
  | 6 => [(9, 6, 0, false, 1, true, 230), (15, 6, 1, false, 1, true, 231), (18, 6, 2, false, 1, true, 232), (21, 6, 3, false, 1, true, 233), (24, 6, 4, false, 1, true, 234), (27, 6, 5, false, 1, true, 235), (30, 6, 6, false, 1, true, 236), (33, 6, 7, false, 1, true, 237), (36, 6, 8, false, 1, true, 238), (48, 6, 13, false, 0, false, 243), (52, 4, 5, true, 0, false, 146), (69, 6, 15, false, 0, false, 247), (72, 6, 16, false, 0, false, 249), (75, 4, 3, true, 0, false, 139), (78, 4, 9, true, 1, true, 166), (86, 6, 14, false, 0, false, 245), (89, 6, 12, false, 0, false, 242), (92, 4, 0, true, 0, false, 131), (95, 6, 9, false, 0, false, 239), (96, 4, 1, true, 0, false, 134), (99, 6, 10, false, 0, false, 240), (115, 4, 7, true, 1, true, 158), (116, 6, 11, false, 0, false, 241)]
  | 7 => [(10, 7, 0, false, 1, true, 330), (19, 7, 1, false, 1, true, 331), (26, 7, 2, false, 1, true, 332), (30, 7, 3, false, 1, true, 333), (33, 7, 4, false, 1, true, 334), (40, 7, 5, false, 1, true, 335), (47, 7, 6, false, 1, true, 336), (54, 7, 7, false, 1, true, 337), (61, 7, 8, false, 1, true, 338), (116, 7, 9, false, 0, false, 339), (121, 5, 2, true, 0, false, 111), (131, 4, 3, true, 0, false, 142), (142, 4, 4, true, 0, false, 145), (169, 4, 9, true, 1, true, 169), (184, 4, 7, true, 1, true, 159), (187, 4, 8, true, 1, true, 162), (211, 4, 5, true, 0, false, 150), (221, 6, 13, true, 0, false, 244), (224, 6, 14, true, 0, false, 246), (236, 6, 15, true, 0, false, 248), (239, 6, 16, true, 0, false, 250), (266, 4, 0, true, 0, false, 132), (269, 3, 0, true, 1, true, 90), (317, 4, 6, true, 1, true, 154), (335, 0, 5, true, 0, false, 210), (338, 5, 1, true, 0, false, 109), (341, 7, 10, false, 0, false, 340)]
  | 8 => [(7, 8, 2, false, 1, true, 1011), (13, 8, 3, false, 1, true, 1012), (16, 8, 4, false, 1, true, 1013), (19, 8, 5, false, 1, true, 1014), (22, 8, 6, false, 1, true, 1015), (25, 8, 7, false, 1, true, 1016), (28, 8, 8, false, 1, true, 1017), (31, 8, 10, false, 1, true, 1019), (34, 8, 19, false, 1, true, 1028), (37, 8, 24, false, 1, true, 1033), (40, 8, 25, false, 1, true, 1034), (43, 8, 26, false, 1, true, 1035), (47, 8, 27, false, 1, true, 1036), (50, 8, 28, false, 1, true, 1037), (53, 8, 0, false, 0, false, 1009), (57, 8, 1, false, 0, false, 1010), (80, 8, 11, false, 0, false, 1020), (84, 8, 16, false, 0, false, 1025), (87, 8, 13, false, 0, false, 1022), (90, 8, 17, false, 0, false, 1026), (93, 8, 12, false, 0, false, 1021), (97, 8, 15, false, 0, false, 1024), (108, 8, 14, false, 0, false, 1023), (122, 8, 18, false, 0, false, 1027), (152, 8, 9, false, 0, false, 1018), (230, 8, 20, false, 0, false, 1029), (242, 8, 21, false, 0, false, 1030), (255, 8, 22, false, 0, false, 1031), (258, 8, 23, false, 0, false, 1032), (302, 8, 29, false, 0, false, 1038)]
  | 9 => [(16, 4, 3, true, 0, false, 136), (22, 4, 9, true, 1, true, 164), (26, 4, 0, true, 0, false, 130), (33, 4, 7, true, 1, true, 157), (36, 4, 8, true, 1, true, 161), (45, 4, 6, true, 1, true, 153)]
  | 10 => []
  | 11 => [(19, 4, 0, true, 0, false, 129), (38, 4, 3, true, 0, false, 141), (41, 4, 9, true, 1, true, 167)]
  | 12 => []
  | 13 => []
  | 14 => []
  | _ => []
def pm_ct : Nat → List (Nat × Int32 × Nat)
  | 0 => [(31, (-1000000), 530), (40, (-1000002), 506)]
  | 1 => [(22, (-1000001), 969), (58, (-1000000), 990)]
  | 2 => [(73, (-1000000), 803)]
  | 3 => []
  | 4 => [(53, (-1000000), 529), (112, 1000000, 816)]
  | 5 => [(19, (-1000003), 441)]
  | 6 => [(43, (-1000000), 692), (85, 1000000, 767)]
  | 7 => [(72, (-1000001), 374), (120, (-1000100), 485), (141, (-1000002), 543), (145, (-1000003), 544), (177, (-1000000), 572), (305, 999999, 925), (344, (-1000010), 379)]
  | 8 => [(60, (-1000010), 1118), (73, (-1000001), 1113), (83, (-1000003), 1136), (96, (-1000000), 1153), (151, (-1000100), 1193), (190, (-1000002), 1202)]
  | 9 => [(9, (-1000000), 849)]
  | 10 => []
  | 11 => []
  | 12 => []
  | 13 => [(265, 1431655765, 522), (266, 858993459, 523), (267, 252645135, 524)]
  | 14 => []
  | _ => []
def pm_lt : Nat → List (Nat × Int32 × Nat)
  | 0 => []
  | 1 => []
  | 2 => []
  | 3 => []
  | 4 => [(72, 16807, 931), (74, 2147483647, 932), (76, 3, 933)]
  | 5 => []
  | 6 => []
  | 7 => [(295, (-1000002), 895), (299, (-1000001), 896)]
  | 8 => [(61, 7, 1108), (71, 2, 1112), (78, 255, 1135), (100, 97, 1154), (102, 122, 1155), (104, 48, 1156), (106, 57, 1157), (191, 24, 1203), (221, 3, 1290), (261, (-2), 1308), (279, (-1000002), 1400), (281, 10, 1401), (283, (-1000001), 1402), (285, 60, 1407), (287, 999999, 1408), (289, 16807, 1409), (291, 2147483647, 1410), (296, 5, 1430)]
  | 9 => []
  | 10 => []
  | 11 => [(25, 2, 919), (27, 5, 920), (29, 10, 918)]
  | 12 => []
  | 13 => []
  | 14 => []
  | _ => []
def pm_nl : Nat → List (Nat × Nat × Nat)
  | 0 => []
  | 1 => []
  | 2 => []
  | 3 => []
  | 4 => []
  | 5 => []
  | 6 => []
  | 7 => [(7, 3, 81), (16, 5, 101), (23, 4, 122), (37, 0, 198), (44, 6, 224), (51, 2, 286), (58, 1, 302)]
  | 8 => []
  | 9 => []
  | 10 => []
  | 11 => []
  | 12 => [(7, 7, 73), (10, 8, 1003)]
  | 13 => []
  | 14 => []
  | _ => []
/-- links of methods: index, method, a nest mate's, place -/
def pm_ml : Nat → List (Nat × Nat × Bool × Nat)
  | 0 => [(41, 42, false, 507), (47, 47, false, 531)]
  | 1 => [(32, 59, false, 970), (54, 145, false, 975), (59, 146, false, 978)]
  | 2 => [(18, 44, false, 776), (28, 102, false, 777), (35, 70, false, 781), (38, 103, false, 782), (48, 71, false, 786), (52, 62, false, 787), (61, 59, false, 793), (64, 45, false, 794), (69, 106, false, 799)]
  | 3 => [(23, 16, false, 396), (27, 17, false, 400)]
  | 4 => [(49, 50, false, 557), (54, 47, false, 558), (58, 58, false, 581), (62, 43, false, 511), (65, 46, false, 525), (69, 52, false, 930), (78, 57, false, 934), (81, 44, false, 515), (84, 45, false, 519), (89, 60, false, 589), (92, 61, false, 593), (97, 63, false, 600), (100, 59, false, 585), (103, 62, false, 596), (106, 109, false, 812), (109, 70, false, 819), (113, 71, false, 817), (122, 74, false, 655), (128, 72, false, 664), (131, 126, false, 883)]
  | 5 => [(26, 28, false, 450), (30, 32, false, 466), (33, 36, false, 481), (38, 29, false, 454), (42, 30, false, 458), (46, 31, false, 462), (53, 33, false, 470), (57, 35, false, 477), (62, 34, false, 474)]
  | 6 => [(39, 80, false, 673), (44, 84, false, 697), (57, 85, false, 701), (61, 86, false, 708), (65, 95, false, 745), (81, 99, false, 763), (100, 44, false, 677), (104, 74, false, 678), (106, 70, false, 679), (109, 62, false, 680), (112, 59, false, 681), (119, 81, false, 682), (123, 83, false, 693), (126, 43, false, 686), (129, 46, false, 687), (133, 82, false, 688), (136, 45, false, 711), (141, 87, false, 712), (145, 88, false, 716), (148, 89, false, 720), (151, 90, false, 724), (159, 91, false, 729), (162, 96, false, 748)]
  | 7 => [(9, 1, false, 83), (18, 2, true, 103), (25, 3, true, 124), (39, 4, true, 200), (46, 5, true, 226), (53, 6, true, 288), (60, 7, true, 304), (65, 9, false, 368), (69, 10, false, 371), (73, 11, false, 375), (77, 12, false, 380), (81, 13, false, 384), (84, 15, false, 392), (88, 18, false, 404), (91, 16, false, 412), (94, 20, false, 413), (98, 17, false, 417), (102, 21, false, 418), (106, 23, false, 429), (109, 25, false, 437), (112, 27, false, 446), (124, 37, false, 486), (128, 38, false, 490), (134, 41, false, 502), (137, 49, false, 539), (146, 50, false, 545), (149, 51, false, 549), (153, 52, false, 553), (156, 43, false, 559), (159, 54, false, 564), (162, 55, false, 568), (166, 66, false, 611), (173, 56, false, 573), (178, 59, false, 615), (181, 42, false, 624), (190, 70, false, 629), (193, 62, false, 633), (196, 71, false, 634), (199, 72, false, 638), (202, 74, false, 646), (205, 44, false, 650), (208, 75, false, 651), (214, 77, false, 660), (218, 79, false, 669), (227, 92, false, 733), (230, 94, false, 741), (233, 98, false, 759), (242, 101, false, 772), (245, 104, false, 789), (249, 105, false, 795), (252, 108, false, 808), (255, 60, false, 828), (258, 112, false, 829), (261, 85, false, 837), (264, 114, false, 838), (273, 116, false, 846), (279, 119, false, 858), (283, 121, false, 865), (286, 123, false, 872), (289, 125, false, 879), (292, 127, false, 887), (301, 129, false, 897), (306, 136, false, 926), (309, 45, false, 935), (314, 137, false, 936), (322, 142, false, 956), (325, 144, false, 965), (329, 148, false, 986), (332, 150, false, 995), (345, 57, false, 577)]
  | 8 => [(63, 155, false, 1109), (67, 154, false, 1105), (74, 156, false, 1114), (111, 167, false, 1166), (115, 164, false, 1149), (118, 166, false, 1162), (125, 171, false, 1182), (128, 168, false, 1170), (132, 169, false, 1174), (135, 163, false, 1145), (138, 165, false, 1158), (141, 170, false, 1178), (145, 172, false, 1185), (148, 173, false, 1189), (155, 179, false, 1214), (159, 189, false, 1246), (163, 190, false, 1249), (167, 201, false, 1291), (170, 188, false, 1243), (173, 191, false, 1252), (176, 180, false, 1217), (180, 187, false, 1240), (184, 178, false, 1211), (187, 175, false, 1198), (193, 176, false, 1204), (196, 177, false, 1208), (199, 181, false, 1220), (202, 182, false, 1223), (205, 184, false, 1230), (208, 185, false, 1234), (211, 186, false, 1237), (214, 194, false, 1263), (217, 199, false, 1283), (223, 202, false, 1294), (226, 204, false, 1301), (233, 210, false, 1325), (236, 211, false, 1329), (239, 207, false, 1313), (245, 208, false, 1317), (249, 209, false, 1321), (252, 212, false, 1333), (263, 206, false, 1309), (266, 216, false, 1348), (269, 222, false, 1372), (273, 223, false, 1376), (276, 226, false, 1388), (293, 230, false, 1411), (298, 235, false, 1431), (305, 239, false, 1446), (308, 240, false, 1450), (311, 238, false, 1442), (314, 241, false, 1454), (317, 237, false, 1438)]
  | 9 => [(10, 117, false, 850), (29, 74, false, 853), (39, 122, false, 868), (48, 58, false, 871)]
  | 10 => []
  | 11 => [(9, 130, false, 900), (15, 134, false, 915), (31, 131, false, 903), (35, 132, false, 907), (45, 71, false, 906), (49, 133, false, 910), (53, 75, false, 913), (56, 44, false, 914)]
  | 12 => [(9, 0, false, 75), (12, 152, false, 1005), (13, 8, false, 364), (17, 153, false, 1101), (18, 14, false, 388), (21, 157, false, 1119), (22, 19, false, 408), (26, 158, false, 1123), (27, 22, false, 425), (31, 159, false, 1127), (32, 24, false, 433), (35, 160, false, 1131), (36, 26, false, 442), (40, 162, false, 1141), (41, 39, false, 494), (44, 161, false, 1137), (45, 40, false, 498), (48, 197, false, 1275), (49, 48, false, 535), (52, 174, false, 1194), (53, 53, false, 560), (56, 183, false, 1226), (57, 64, false, 603), (60, 192, false, 1255), (61, 65, false, 607), (65, 193, false, 1259), (66, 67, false, 616), (69, 195, false, 1267), (70, 68, false, 620), (73, 196, false, 1271), (74, 69, false, 625), (77, 198, false, 1279), (78, 73, false, 642), (81, 200, false, 1286), (82, 76, false, 656), (85, 203, false, 1297), (86, 78, false, 665), (89, 205, false, 1304), (90, 93, false, 737), (93, 213, false, 1336), (94, 97, false, 755), (97, 214, false, 1340), (98, 100, false, 768), (101, 215, false, 1344), (102, 107, false, 804), (105, 217, false, 1352), (106, 110, false, 820), (109, 218, false, 1356), (110, 111, false, 824), (113, 219, false, 1360), (114, 113, false, 833), (117, 220, false, 1364), (118, 115, false, 842), (121, 221, false, 1368), (122, 118, false, 854), (125, 224, false, 1380), (126, 120, false, 861), (130, 225, false, 1384), (131, 124, false, 875), (134, 227, false, 1392), (135, 128, false, 891), (139, 228, false, 1396), (140, 135, false, 921), (143, 229, false, 1403), (144, 138, false, 940), (147, 231, false, 1414), (148, 139, false, 944), (151, 232, false, 1418), (152, 140, false, 948), (155, 233, false, 1422), (156, 141, false, 952), (159, 234, false, 1426), (160, 143, false, 961), (163, 236, false, 1434), (164, 147, false, 982), (167, 242, false, 1458), (168, 149, false, 991), (171, 243, false, 1462), (172, 151, false, 999), (175, 244, false, 1466)]
  | 13 => []
  | 14 => []
  | _ => []
/-- links of Object's constructor -/
def pm_ol : Nat → List (Nat × Nat)
  | 0 => [(3, 203)]
  | 1 => [(3, 307)]
  | 2 => [(3, 291)]
  | 3 => [(3, 86)]
  | 4 => [(3, 127)]
  | 5 => [(3, 106)]
  | 6 => [(3, 229)]
  | 7 => [(1, 78)]
  | 8 => [(1, 1008)]
  | 9 => []
  | 10 => []
  | 11 => []
  | 12 => []
  | 13 => []
  | 14 => []
  | _ => []
/-- links of arraycopy -/
def pm_al : Nat → List (Nat × Nat)
  | 0 => []
  | 1 => []
  | 2 => []
  | 3 => [(31, 422)]
  | 4 => []
  | 5 => []
  | 6 => []
  | 7 => []
  | 8 => []
  | 9 => []
  | 10 => []
  | 11 => []
  | 12 => []
  | 13 => []
  | 14 => []
  | _ => []
/-- links of max -/
def pm_xl : Nat → List (Nat × Nat)
  | 0 => []
  | 1 => []
  | 2 => []
  | 3 => []
  | 4 => [(125, 705)]
  | 5 => []
  | 6 => [(154, 728)]
  | 7 => []
  | 8 => []
  | 9 => []
  | 10 => []
  | 11 => []
  | 12 => []
  | 13 => []
  | 14 => []
  | _ => []
/-- links of min -/
def pm_yl : Nat → List (Nat × Nat)
  | 0 => []
  | 1 => []
  | 2 => [(42, 788)]
  | 3 => []
  | 4 => [(117, 818)]
  | 5 => []
  | 6 => [(165, 752)]
  | 7 => []
  | 8 => []
  | 9 => []
  | 10 => []
  | 11 => []
  | 12 => []
  | 13 => []
  | 14 => []
  | _ => []
/-- links of static rows: index, which, place -/
def pm_sl : Nat → List (Nat × Nat × Nat)
  | 0 => []
  | 1 => [(39, 2, 971), (45, 3, 973)]
  | 2 => []
  | 3 => []
  | 4 => []
  | 5 => []
  | 6 => []
  | 7 => []
  | 8 => []
  | 9 => []
  | 10 => [(11, 1, 959)]
  | 11 => []
  | 12 => []
  | 13 => []
  | 14 => []
  | _ => []
/-- a method: name, bytes, locals, return, kind (0 static, 1 virtual, 2 constructor), how many values it takes, its class; places of its words: code, static or instance, selects, initialized -/
abbrev pm_T : Type := MethodName × ByteArray × Nat × Option FieldType × Nat × Nat × Nat × Nat × Nat × Nat × Nat
def pm_mt0 : List pm_T := [(⟨"EggsLast", "<init>", "()V"⟩, prog_1_method_1_code, 1, none, 2, 1, 7, 77, 76, 0, 58),
  (⟨"EggsLast$Rows", "<init>", "()V"⟩, prog_8_method_1_code, 2, none, 2, 1, 3, 85, 84, 0, 59),
  (⟨"EggsLast$Tape", "<init>", "()V"⟩, prog_10_method_1_code, 1, none, 2, 1, 5, 105, 104, 0, 60),
  (⟨"EggsLast$Shop", "<init>", "()V"⟩, prog_9_method_1_code, 1, none, 2, 1, 4, 126, 125, 0, 61),
  (⟨"EggsLast$Acts", "<init>", "()V"⟩, prog_2_method_1_code, 1, none, 2, 1, 0, 202, 201, 0, 62),
  (⟨"EggsLast$Ways", "<init>", "()V"⟩, prog_11_method_1_code, 1, none, 2, 1, 6, 228, 227, 0, 63),
  (⟨"EggsLast$BeltOrder", "<init>", "()V"⟩, prog_4_method_1_code, 1, none, 2, 1, 2, 290, 289, 0, 64),
  (⟨"EggsLast$Asks", "<init>", "()V"⟩, prog_3_method_1_code, 1, none, 2, 1, 1, 306, 305, 0, 65),
  (⟨"EggsLast", "row", "(III)I"⟩, prog_1_method_2_code, 4, (some .int), 1, 4, 7, 367, 365, 366, 58),
  (⟨"EggsLast$Rows", "isRow", "(I)Z"⟩, prog_8_method_2_code, 1, (some .boolean), 0, 1, 3, 370, 369, 0, 59),
  (⟨"EggsLast$Rows", "isLane", "(I)Z"⟩, prog_8_method_3_code, 1, (some .boolean), 0, 1, 3, 373, 372, 0, 59),
  (⟨"EggsLast", "found", "(I)I"⟩, prog_1_method_41_code, 2, (some .int), 1, 2, 7, 378, 377, 0, 58),
  (⟨"EggsLast$Rows", "make", "(III)V"⟩, prog_8_method_9_code, 5, none, 1, 4, 3, 383, 381, 382, 59),
  (⟨"EggsLast", "fine", "(I)I"⟩, prog_1_method_42_code, 2, (some .int), 1, 2, 7, 387, 386, 1, 58),
  (⟨"EggsLast", "set", "(III)I"⟩, prog_1_method_3_code, 5, (some .int), 1, 4, 7, 391, 389, 390, 58),
  (⟨"EggsLast$Rows", "findingAt", "(III)I"⟩, prog_8_method_7_code, 4, (some .int), 1, 4, 3, 395, 393, 394, 59),
  (⟨"EggsLast$Rows", "isMissing", "(I)Z"⟩, prog_8_method_4_code, 2, (some .boolean), 1, 2, 3, 399, 397, 398, 59),
  (⟨"EggsLast$Rows", "reaches", "(III)Z"⟩, prog_8_method_6_code, 4, (some .boolean), 1, 4, 3, 403, 401, 402, 59),
  (⟨"EggsLast$Rows", "put", "(III)I"⟩, prog_8_method_10_code, 5, (some .int), 1, 4, 3, 407, 405, 406, 59),
  (⟨"EggsLast", "copy", "(IIIII)I"⟩, prog_1_method_4_code, 6, (some .int), 1, 6, 7, 411, 409, 410, 58),
  (⟨"EggsLast$Rows", "areOfOneLane", "(II)Z"⟩, prog_8_method_5_code, 3, (some .boolean), 1, 3, 3, 416, 414, 415, 59),
  (⟨"EggsLast$Rows", "carry", "(IIIII)V"⟩, prog_8_method_11_code, 6, none, 1, 6, 3, 421, 419, 420, 59),
  (⟨"EggsLast", "drop", "(I)I"⟩, prog_1_method_5_code, 2, (some .int), 1, 2, 7, 428, 426, 427, 58),
  (⟨"EggsLast$Rows", "lose", "(I)I"⟩, prog_8_method_12_code, 3, (some .int), 1, 2, 3, 432, 430, 431, 59),
  (⟨"EggsLast", "feed", "(I)I"⟩, prog_1_method_6_code, 2, (some .int), 1, 2, 7, 436, 434, 435, 58),
  (⟨"EggsLast$Tape", "append", "(I)I"⟩, prog_10_method_2_code, 2, (some .int), 1, 2, 5, 440, 438, 439, 60),
  (⟨"EggsLast", "shop", "()I"⟩, prog_1_method_7_code, 2, (some .int), 1, 1, 7, 445, 443, 444, 58),
  (⟨"EggsLast$Tape", "read", "(LEggsLast$Shop;)I"⟩, prog_10_method_3_code, 3, (some .int), 1, 2, 5, 449, 447, 448, 60),
  (⟨"EggsLast$Tape", "readLaw", "(LEggsLast$Shop;)V"⟩, prog_10_method_4_code, 5, none, 1, 2, 5, 453, 452, 2, 60),
  (⟨"EggsLast$Tape", "readSign", "(C)V"⟩, prog_10_method_6_code, 2, none, 1, 2, 5, 457, 456, 3, 60),
  (⟨"EggsLast$Tape", "readNumber", "(II)I"⟩, prog_10_method_7_code, 6, (some .int), 1, 3, 5, 461, 460, 4, 60),
  (⟨"EggsLast$Shop", "open", "(III)V"⟩, prog_9_method_5_code, 4, none, 1, 4, 4, 465, 463, 464, 61)]
def pm_mt1 : List pm_T := [(⟨"EggsLast$Tape", "readThing", "(LEggsLast$Shop;)V"⟩, prog_10_method_5_code, 5, none, 1, 2, 5, 469, 468, 5, 60),
  (⟨"EggsLast$Tape", "readSort", "(I)I"⟩, prog_10_method_8_code, 3, (some .int), 1, 2, 5, 473, 472, 6, 60),
  (⟨"EggsLast$Kinds", "byLetter", "(I)I"⟩, prog_6_method_2_code, 1, (some .int), 0, 1, 10, 476, 475, 0, 68),
  (⟨"EggsLast$Shop", "add", "(III)V"⟩, prog_9_method_6_code, 4, none, 1, 4, 4, 480, 478, 479, 61),
  (⟨"EggsLast$Shop", "layAllOnBelt", "()V"⟩, prog_9_method_7_code, 2, none, 1, 1, 4, 484, 482, 483, 61),
  (⟨"EggsLast$Shop", "become", "(LEggsLast$Shop;)V"⟩, prog_9_method_8_code, 3, none, 1, 2, 4, 489, 487, 488, 61),
  (⟨"EggsLast$Acts", "forget", "()V"⟩, prog_2_method_2_code, 1, none, 1, 1, 0, 493, 491, 492, 62),
  (⟨"EggsLast", "fault", "()I"⟩, prog_1_method_8_code, 1, (some .int), 1, 1, 7, 497, 495, 496, 58),
  (⟨"EggsLast", "undo", "()I"⟩, prog_1_method_9_code, 1, (some .int), 1, 1, 7, 501, 499, 500, 58),
  (⟨"EggsLast$Acts", "takeBack", "(LEggsLast$Shop;)I"⟩, prog_2_method_4_code, 3, (some .int), 1, 2, 0, 505, 503, 504, 62),
  (⟨"EggsLast$Shop", "swapFirstTwo", "()V"⟩, prog_9_method_12_code, 4, none, 1, 1, 4, 510, 508, 509, 61),
  (⟨"EggsLast$Shop", "countAt", "(I)I"⟩, prog_9_method_14_code, 2, (some .int), 1, 2, 4, 514, 512, 513, 61),
  (⟨"EggsLast$Shop", "bitsAt", "(I)I"⟩, prog_9_method_15_code, 4, (some .int), 1, 2, 4, 518, 516, 517, 61),
  (⟨"java/lang/Integer", "bitCount", "(I)I"⟩, prog_14_method_49_code, 1, (some .int), 0, 1, 13, 521, 520, 0, 69),
  (⟨"EggsLast$Shop", "thingAt", "(II)I"⟩, prog_9_method_16_code, 4, (some .int), 1, 3, 4, 528, 526, 527, 61),
  (⟨"EggsLast$Shop", "put", "(II)V"⟩, prog_9_method_11_code, 3, none, 1, 3, 4, 534, 532, 533, 61),
  (⟨"EggsLast", "beeps", "(I)I"⟩, prog_1_method_10_code, 3, (some .int), 1, 2, 7, 538, 536, 537, 58),
  (⟨"EggsLast$Shop", "stands", "()Z"⟩, prog_9_method_2_code, 1, (some .boolean), 1, 1, 4, 542, 540, 541, 61),
  (⟨"EggsLast$Shop", "topOf", "(I)I"⟩, prog_9_method_17_code, 2, (some .int), 1, 2, 4, 548, 546, 547, 61),
  (⟨"EggsLast$Acts", "keep", "(IILEggsLast$Shop;)V"⟩, prog_2_method_3_code, 5, none, 1, 4, 0, 552, 550, 551, 62),
  (⟨"EggsLast$Shop", "beepOnce", "()V"⟩, prog_9_method_9_code, 2, none, 1, 1, 4, 556, 554, 555, 61),
  (⟨"EggsLast", "pack", "(I)I"⟩, prog_1_method_11_code, 2, (some .int), 1, 2, 7, 563, 561, 562, 58),
  (⟨"EggsLast$Shop", "hasBag", "(I)Z"⟩, prog_9_method_4_code, 2, (some .boolean), 1, 2, 4, 567, 565, 566, 61),
  (⟨"EggsLast", "moveTop", "(II)I"⟩, prog_1_method_43_code, 4, (some .int), 1, 3, 7, 571, 570, 7, 58),
  (⟨"EggsLast", "move", "(II)V"⟩, prog_1_method_44_code, 3, none, 1, 3, 7, 576, 575, 8, 58),
  (⟨"EggsLast$Shop", "lay", "(II)V"⟩, prog_9_method_10_code, 3, none, 1, 3, 4, 580, 578, 579, 61),
  (⟨"EggsLast$Shop", "overladenBits", "()I"⟩, prog_9_method_23_code, 3, (some .int), 1, 1, 4, 584, 582, 583, 61),
  (⟨"EggsLast$Shop", "loadOn", "(I)I"⟩, prog_9_method_22_code, 5, (some .int), 1, 2, 4, 588, 586, 587, 61),
  (⟨"EggsLast$Shop", "bitsAbove", "(I)I"⟩, prog_9_method_18_code, 4, (some .int), 1, 2, 4, 592, 590, 591, 61),
  (⟨"EggsLast$Kinds", "press", "(II)I"⟩, prog_6_method_4_code, 2, (some .int), 0, 2, 10, 595, 594, 0, 68),
  (⟨"EggsLast$Shop", "bearsOf", "(I)I"⟩, prog_9_method_21_code, 2, (some .int), 1, 2, 4, 599, 597, 598, 61),
  (⟨"EggsLast$Kinds", "bears", "(II)I"⟩, prog_6_method_5_code, 2, (some .int), 0, 2, 10, 602, 601, 0, 68)]
def pm_mt2 : List pm_T := [(⟨"EggsLast", "layBy", "()I"⟩, prog_1_method_12_code, 1, (some .int), 1, 1, 7, 606, 604, 605, 58),
  (⟨"EggsLast", "putIn", "(II)I"⟩, prog_1_method_13_code, 4, (some .int), 1, 3, 7, 610, 608, 609, 58),
  (⟨"EggsLast$Shop", "hasThing", "(I)Z"⟩, prog_9_method_3_code, 2, (some .boolean), 1, 2, 4, 614, 612, 613, 61),
  (⟨"EggsLast", "takeOut", "(I)I"⟩, prog_1_method_14_code, 2, (some .int), 1, 2, 7, 619, 617, 618, 58),
  (⟨"EggsLast", "swap", "()I"⟩, prog_1_method_15_code, 1, (some .int), 1, 1, 7, 623, 621, 622, 58),
  (⟨"EggsLast", "thing", "(II)I"⟩, prog_1_method_16_code, 3, (some .int), 1, 3, 7, 628, 626, 627, 58),
  (⟨"EggsLast$Shop", "pressOf", "(I)I"⟩, prog_9_method_20_code, 2, (some .int), 1, 2, 4, 632, 630, 631, 61),
  (⟨"EggsLast$Shop", "isCrushed", "(I)Z"⟩, prog_9_method_24_code, 2, (some .boolean), 1, 2, 4, 637, 635, 636, 61),
  (⟨"EggsLast$Shop", "isWarm", "(I)Z"⟩, prog_9_method_32_code, 2, (some .boolean), 1, 2, 4, 641, 639, 640, 61),
  (⟨"EggsLast", "bag", "(II)I"⟩, prog_1_method_17_code, 3, (some .int), 1, 3, 7, 645, 643, 644, 58),
  (⟨"EggsLast$Shop", "weighs", "(I)I"⟩, prog_9_method_27_code, 4, (some .int), 1, 2, 4, 649, 647, 648, 61),
  (⟨"EggsLast$Shop", "isTorn", "(I)Z"⟩, prog_9_method_28_code, 2, (some .boolean), 1, 2, 4, 654, 652, 653, 61),
  (⟨"EggsLast", "stand", "(I)I"⟩, prog_1_method_18_code, 2, (some .int), 1, 2, 7, 659, 657, 658, 58),
  (⟨"EggsLast$Shop", "warmBits", "()I"⟩, prog_9_method_33_code, 3, (some .int), 1, 1, 4, 663, 661, 662, 61),
  (⟨"EggsLast", "least", "(I)I"⟩, prog_1_method_19_code, 2, (some .int), 1, 2, 7, 668, 666, 667, 58),
  (⟨"EggsLast$Ways", "seekLeast", "(LEggsLast$Shop;)V"⟩, prog_11_method_2_code, 2, none, 1, 2, 6, 672, 670, 671, 63),
  (⟨"EggsLast$Ways", "begin", "(LEggsLast$Shop;)V"⟩, prog_11_method_7_code, 3, none, 1, 2, 6, 676, 675, 9, 63),
  (⟨"EggsLast$Ways", "queueFromTop", "(LEggsLast$Shop;I)V"⟩, prog_11_method_8_code, 4, none, 1, 3, 6, 685, 684, 10, 63),
  (⟨"EggsLast$Ways", "enqueue", "(I)V"⟩, prog_11_method_10_code, 2, none, 1, 2, 6, 691, 690, 11, 63),
  (⟨"EggsLast$Ways", "queueLaidBy", "(LEggsLast$Shop;)V"⟩, prog_11_method_9_code, 3, none, 1, 2, 6, 696, 695, 12, 63),
  (⟨"EggsLast$Ways", "packAllBut", "(I)V"⟩, prog_11_method_11_code, 3, none, 1, 2, 6, 700, 699, 13, 63),
  (⟨"EggsLast$Shop", "heaviest", "()I"⟩, prog_9_method_30_code, 3, (some .int), 1, 1, 4, 704, 702, 703, 61),
  (⟨"EggsLast$Ways", "goOn", "(LEggsLast$Ways;III)V"⟩, prog_11_method_12_code, 8, none, 0, 4, 6, 710, 709, 0, 63),
  (⟨"EggsLast$Ways", "isBetter", "(II)Z"⟩, prog_11_method_14_code, 3, (some .boolean), 1, 3, 6, 715, 714, 14, 63),
  (⟨"EggsLast$Ways", "keep", "(II)V"⟩, prog_11_method_15_code, 4, none, 1, 3, 6, 719, 718, 15, 63),
  (⟨"EggsLast$Ways", "bagsToTry", "()I"⟩, prog_11_method_13_code, 3, (some .int), 1, 1, 6, 723, 722, 16, 63),
  (⟨"EggsLast$Ways", "lay", "(II)I"⟩, prog_11_method_16_code, 5, (some .int), 1, 3, 6, 727, 726, 17, 63),
  (⟨"EggsLast$Ways", "lift", "(II)V"⟩, prog_11_method_17_code, 4, none, 1, 3, 6, 732, 731, 18, 63),
  (⟨"EggsLast$Ways", "bagFor", "(I)I"⟩, prog_11_method_6_code, 3, (some .int), 1, 2, 6, 736, 734, 735, 63),
  (⟨"EggsLast", "torn", "()I"⟩, prog_1_method_20_code, 1, (some .int), 1, 1, 7, 740, 738, 739, 58),
  (⟨"EggsLast$Ways", "seekTorn", "(LEggsLast$Shop;)I"⟩, prog_11_method_3_code, 2, (some .int), 1, 2, 6, 744, 742, 743, 63),
  (⟨"EggsLast$Ways", "fewestTorn", "(LEggsLast$Ways;II)I"⟩, prog_11_method_18_code, 8, (some .int), 0, 3, 6, 747, 746, 0, 63)]
def pm_mt3 : List pm_T := [(⟨"EggsLast$Ways", "tornNow", "()I"⟩, prog_11_method_19_code, 3, (some .int), 1, 1, 6, 751, 750, 19, 63),
  (⟨"EggsLast", "give", "(I)I"⟩, prog_1_method_21_code, 2, (some .int), 1, 2, 7, 758, 756, 757, 58),
  (⟨"EggsLast$Ways", "seekGive", "(LEggsLast$Shop;)V"⟩, prog_11_method_4_code, 3, none, 1, 2, 6, 762, 760, 761, 63),
  (⟨"EggsLast$Ways", "tryWithout", "(II)V"⟩, prog_11_method_5_code, 3, none, 1, 3, 6, 766, 765, 20, 63),
  (⟨"EggsLast", "order", "(II)I"⟩, prog_1_method_22_code, 3, (some .int), 1, 3, 7, 771, 769, 770, 58),
  (⟨"EggsLast$BeltOrder", "seek", "(LEggsLast$Shop;)V"⟩, prog_4_method_2_code, 3, none, 1, 2, 2, 775, 773, 774, 64),
  (⟨"EggsLast$BeltOrder", "weigh", "(LEggsLast$Shop;I)V"⟩, prog_4_method_3_code, 4, none, 1, 3, 2, 780, 779, 21, 64),
  (⟨"EggsLast$BeltOrder", "fewestFrom", "(LEggsLast$Shop;II)I"⟩, prog_4_method_4_code, 6, (some .int), 1, 4, 2, 785, 784, 22, 64),
  (⟨"EggsLast$BeltOrder", "crushedBy", "(LEggsLast$Shop;I)I"⟩, prog_4_method_5_code, 5, (some .int), 1, 3, 2, 792, 790, 791, 64),
  (⟨"EggsLast$BeltOrder", "thingAt", "(LEggsLast$Shop;I)I"⟩, prog_4_method_6_code, 6, (some .int), 1, 3, 2, 798, 796, 797, 64),
  (⟨"EggsLast$BeltOrder", "firstOf", "(LEggsLast$Shop;I)I"⟩, prog_4_method_7_code, 4, (some .int), 1, 3, 2, 802, 801, 23, 64),
  (⟨"EggsLast", "top", "(I)I"⟩, prog_1_method_23_code, 2, (some .int), 1, 2, 7, 807, 805, 806, 58),
  (⟨"EggsLast$Shop", "harmlessOn", "(I)I"⟩, prog_9_method_25_code, 5, (some .int), 1, 2, 4, 811, 809, 810, 61),
  (⟨"EggsLast$Shop", "leastSpareAt", "(I)I"⟩, prog_9_method_26_code, 4, (some .int), 1, 2, 4, 815, 814, 24, 61),
  (⟨"EggsLast", "spare", "(I)I"⟩, prog_1_method_24_code, 2, (some .int), 1, 2, 7, 823, 821, 822, 58),
  (⟨"EggsLast", "beside", "(II)I"⟩, prog_1_method_25_code, 3, (some .int), 1, 3, 7, 827, 825, 826, 58),
  (⟨"EggsLast$Shop", "bitsBelow", "(I)I"⟩, prog_9_method_19_code, 2, (some .int), 1, 2, 4, 832, 830, 831, 61),
  (⟨"EggsLast", "even", "()I"⟩, prog_1_method_26_code, 1, (some .int), 1, 1, 7, 836, 834, 835, 58),
  (⟨"EggsLast$Shop", "lightest", "()I"⟩, prog_9_method_31_code, 3, (some .int), 1, 1, 4, 841, 839, 840, 61),
  (⟨"EggsLast", "astray", "(II)I"⟩, prog_1_method_27_code, 4, (some .int), 1, 3, 7, 845, 843, 844, 58),
  (⟨"EggsLast$Clues", "missing", "(LEggsLast$Shop;[II)I"⟩, prog_5_method_2_code, 5, (some .int), 0, 3, 9, 848, 847, 0, 71),
  (⟨"EggsLast$Clues", "isWeighed", "(LEggsLast$Shop;II[II)Z"⟩, prog_5_method_4_code, 7, (some .boolean), 0, 5, 9, 852, 851, 0, 71),
  (⟨"EggsLast", "heavy", "(III)I"⟩, prog_1_method_28_code, 5, (some .int), 1, 4, 7, 857, 855, 856, 58),
  (⟨"EggsLast$Clues", "weights", "(LEggsLast$Shop;I[II)I"⟩, prog_5_method_3_code, 6, (some .int), 0, 4, 9, 860, 859, 0, 71),
  (⟨"EggsLast", "who", "(IIII)I"⟩, prog_1_method_29_code, 7, (some .int), 1, 5, 7, 864, 862, 863, 58),
  (⟨"EggsLast$Clues", "softs", "(LEggsLast$Shop;I[II)I"⟩, prog_5_method_5_code, 6, (some .int), 0, 4, 9, 867, 866, 0, 71),
  (⟨"EggsLast$Clues", "isBroken", "(LEggsLast$Shop;[II)Z"⟩, prog_5_method_7_code, 5, (some .boolean), 0, 3, 9, 870, 869, 0, 71),
  (⟨"EggsLast$Clues", "kinds", "(LEggsLast$Shop;I[II)I"⟩, prog_5_method_6_code, 6, (some .int), 0, 4, 9, 874, 873, 0, 71),
  (⟨"EggsLast", "colds", "(I)I"⟩, prog_1_method_30_code, 2, (some .int), 1, 2, 7, 878, 876, 877, 58),
  (⟨"EggsLast$Shop", "coldPairs", "()I"⟩, prog_9_method_34_code, 4, (some .int), 1, 1, 4, 882, 880, 881, 61),
  (⟨"EggsLast$Shop", "isColdPair", "(II)Z"⟩, prog_9_method_36_code, 3, (some .boolean), 1, 3, 4, 886, 885, 25, 61),
  (⟨"EggsLast$Shop", "firstColdPair", "()I"⟩, prog_9_method_35_code, 3, (some .int), 1, 1, 4, 890, 888, 889, 61)]
def pm_mt4 : List pm_T := [(⟨"EggsLast", "tears", "(III)J"⟩, prog_1_method_31_code, 4, (some .long), 1, 4, 7, 894, 892, 893, 58),
  (⟨"EggsLast$Odds", "part", "(LEggsLast$Shop;III)J"⟩, prog_7_method_2_code, 9, (some .long), 0, 4, 11, 899, 898, 0, 72),
  (⟨"EggsLast$Odds", "casesOf", "(LEggsLast$Shop;II)J"⟩, prog_7_method_4_code, 6, (some .long), 0, 3, 11, 902, 901, 0, 72),
  (⟨"EggsLast$Odds", "comeHome", "(LEggsLast$Shop;I)I"⟩, prog_7_method_5_code, 5, (some .int), 0, 2, 11, 905, 904, 0, 72),
  (⟨"EggsLast$Odds", "casesIn", "(LEggsLast$Shop;II)J"⟩, prog_7_method_6_code, 7, (some .long), 0, 3, 11, 909, 908, 0, 72),
  (⟨"EggsLast$Odds", "tearingCases", "(LEggsLast$Shop;II)I"⟩, prog_7_method_7_code, 3, (some .int), 0, 3, 11, 912, 911, 0, 72),
  (⟨"EggsLast$Odds", "allCases", "(LEggsLast$Shop;)J"⟩, prog_7_method_3_code, 4, (some .long), 0, 1, 11, 917, 916, 0, 72),
  (⟨"EggsLast", "drawn", "(III)I"⟩, prog_1_method_32_code, 4, (some .int), 1, 4, 7, 924, 922, 923, 58),
  (⟨"EggsLast$Shop", "goTrip", "(II)V"⟩, prog_9_method_13_code, 7, none, 1, 3, 4, 929, 927, 928, 61),
  (⟨"EggsLast$Shop", "weighsInAll", "()I"⟩, prog_9_method_29_code, 3, (some .int), 1, 1, 4, 939, 937, 938, 61),
  (⟨"EggsLast", "image", "(I)I"⟩, prog_1_method_33_code, 2, (some .int), 1, 2, 7, 943, 941, 942, 58),
  (⟨"EggsLast", "restore", "(I)I"⟩, prog_1_method_34_code, 2, (some .int), 1, 2, 7, 947, 945, 946, 58),
  (⟨"EggsLast", "kind", "(I)I"⟩, prog_1_method_35_code, 2, (some .int), 1, 2, 7, 951, 949, 950, 58),
  (⟨"EggsLast", "as", "(II)I"⟩, prog_1_method_36_code, 3, (some .int), 1, 3, 7, 955, 953, 954, 58),
  (⟨"EggsLast$Kinds", "isA", "(II)Z"⟩, prog_6_method_3_code, 4, (some .boolean), 0, 2, 10, 958, 957, 0, 68),
  (⟨"EggsLast", "ask", "(II)I"⟩, prog_1_method_37_code, 3, (some .int), 1, 3, 7, 964, 962, 963, 58),
  (⟨"EggsLast$Asks", "answer", "(LEggsLast$Shop;II)I"⟩, prog_3_method_2_code, 5, (some .int), 1, 4, 1, 968, 966, 967, 65),
  (⟨"EggsLast$Asks", "gives", "(LEggsLast$Asks;II)I"⟩, prog_3_method_4_code, 4, (some .int), 0, 3, 1, 977, 976, 0, 65),
  (⟨"EggsLast$Asks", "leave", "(I)V"⟩, prog_3_method_5_code, 2, none, 1, 2, 1, 981, 980, 26, 65),
  (⟨"EggsLast", "trace", "(I)I"⟩, prog_1_method_38_code, 2, (some .int), 1, 2, 7, 985, 983, 984, 58),
  (⟨"EggsLast$Asks", "traced", "(I)I"⟩, prog_3_method_3_code, 2, (some .int), 1, 2, 1, 989, 987, 988, 65),
  (⟨"EggsLast", "count", "(I)I"⟩, prog_1_method_39_code, 2, (some .int), 1, 2, 7, 994, 992, 993, 58),
  (⟨"EggsLast$Rows", "present", "()I"⟩, prog_8_method_8_code, 3, (some .int), 1, 1, 3, 998, 996, 997, 59),
  (⟨"EggsLast", "status", "()I"⟩, prog_1_method_40_code, 1, (some .int), 1, 1, 7, 1002, 1000, 1001, 58),
  (⟨"EggsLastModel", "<init>", "()V"⟩, prog_13_method_1_code, 1, none, 2, 1, 8, 1007, 1006, 0, 66),
  (⟨"EggsLastModel", "row", "(III)I"⟩, prog_13_method_6_code, 5, (some .int), 1, 4, 8, 1104, 1102, 1103, 66),
  (⟨"EggsLastModel", "isRow", "(I)Z"⟩, prog_13_method_5_code, 1, (some .boolean), 0, 1, 8, 1107, 1106, 0, 66),
  (⟨"EggsLastModel", "in", "(JJJ)Z"⟩, prog_13_method_3_code, 6, (some .boolean), 0, 3, 8, 1111, 1110, 0, 66),
  (⟨"EggsLastModel", "finding", "(I)I"⟩, prog_13_method_4_code, 2, (some .int), 1, 2, 8, 1117, 1116, 27, 66),
  (⟨"EggsLastModel", "set", "(III)I"⟩, prog_13_method_7_code, 4, (some .int), 1, 4, 8, 1122, 1120, 1121, 66),
  (⟨"EggsLastModel", "copy", "(IIIII)I"⟩, prog_13_method_8_code, 9, (some .int), 1, 6, 8, 1126, 1124, 1125, 66),
  (⟨"EggsLastModel", "drop", "(I)I"⟩, prog_13_method_9_code, 2, (some .int), 1, 2, 8, 1130, 1128, 1129, 66)]
def pm_mt5 : List pm_T := [(⟨"EggsLastModel", "feed", "(I)I"⟩, prog_13_method_10_code, 2, (some .int), 1, 2, 8, 1134, 1132, 1133, 66),
  (⟨"EggsLastModel", "fault", "()I"⟩, prog_13_method_19_code, 1, (some .int), 1, 1, 8, 1140, 1138, 1139, 66),
  (⟨"EggsLastModel", "shop", "()I"⟩, prog_13_method_23_code, 2, (some .int), 1, 1, 8, 1144, 1142, 1143, 66),
  (⟨"EggsLastModel", "begin", "()V"⟩, prog_13_method_17_code, 1, none, 1, 1, 8, 1148, 1147, 28, 66),
  (⟨"EggsLastModel", "nextToken", "()V"⟩, prog_13_method_12_code, 1, none, 1, 1, 8, 1152, 1151, 29, 66),
  (⟨"EggsLastModel", "isLetter", "(I)Z"⟩, prog_13_method_14_code, 2, (some .boolean), 1, 2, 8, 1161, 1160, 30, 66),
  (⟨"EggsLastModel", "must", "(Z)V"⟩, prog_13_method_13_code, 2, none, 1, 2, 8, 1165, 1164, 31, 66),
  (⟨"EggsLastModel", "bad", "(I)V"⟩, prog_13_method_11_code, 2, none, 1, 2, 8, 1169, 1168, 32, 66),
  (⟨"EggsLastModel", "number", "(II)I"⟩, prog_13_method_15_code, 4, (some .int), 1, 3, 8, 1173, 1172, 33, 66),
  (⟨"EggsLastModel", "mustSign", "(I)V"⟩, prog_13_method_16_code, 2, none, 1, 2, 8, 1177, 1176, 34, 66),
  (⟨"EggsLastModel", "isSort", "()Z"⟩, prog_13_method_21_code, 1, (some .boolean), 1, 1, 8, 1181, 1180, 35, 66),
  (⟨"EggsLastModel", "kindBy", "(I)I"⟩, prog_13_method_20_code, 1, (some .int), 0, 1, 8, 1184, 1183, 0, 66),
  (⟨"EggsLastModel", "readThing", "()V"⟩, prog_13_method_22_code, 5, none, 1, 1, 8, 1188, 1187, 36, 66),
  (⟨"EggsLastModel", "failed", "()Z"⟩, prog_13_method_18_code, 1, (some .boolean), 1, 1, 8, 1192, 1191, 37, 66),
  (⟨"EggsLastModel", "beeps", "(I)I"⟩, prog_13_method_48_code, 3, (some .int), 1, 2, 8, 1197, 1195, 1196, 66),
  (⟨"EggsLastModel", "isThere", "()Z"⟩, prog_13_method_24_code, 1, (some .boolean), 1, 1, 8, 1201, 1200, 38, 66),
  (⟨"EggsLastModel", "keep", "()V"⟩, prog_13_method_47_code, 2, none, 1, 1, 8, 1207, 1206, 39, 66),
  (⟨"EggsLastModel", "beep", "([I)V"⟩, prog_13_method_42_code, 2, none, 0, 1, 8, 1210, 1209, 0, 66),
  (⟨"EggsLastModel", "firstOf", "([II)I"⟩, prog_13_method_34_code, 5, (some .int), 0, 2, 8, 1213, 1212, 0, 66),
  (⟨"EggsLastModel", "of", "([III)I"⟩, prog_13_method_28_code, 3, (some .int), 0, 3, 8, 1216, 1215, 0, 66),
  (⟨"EggsLastModel", "comes", "([III)V"⟩, prog_13_method_40_code, 3, none, 0, 3, 8, 1219, 1218, 0, 66),
  (⟨"EggsLastModel", "things", "([II)I"⟩, prog_13_method_33_code, 4, (some .int), 0, 2, 8, 1222, 1221, 0, 66),
  (⟨"EggsLastModel", "bits", "(I)I"⟩, prog_13_method_27_code, 3, (some .int), 0, 1, 8, 1225, 1224, 0, 66),
  (⟨"EggsLastModel", "pack", "(I)I"⟩, prog_13_method_49_code, 3, (some .int), 1, 2, 8, 1229, 1227, 1228, 66),
  (⟨"EggsLastModel", "isBag", "(I)Z"⟩, prog_13_method_26_code, 2, (some .boolean), 1, 2, 8, 1233, 1232, 40, 66),
  (⟨"EggsLastModel", "topOf", "([II)I"⟩, prog_13_method_35_code, 5, (some .int), 0, 2, 8, 1236, 1235, 0, 66),
  (⟨"EggsLastModel", "packs", "([III)V"⟩, prog_13_method_41_code, 3, none, 0, 3, 8, 1239, 1238, 0, 66),
  (⟨"EggsLastModel", "crush", "([I)V"⟩, prog_13_method_39_code, 2, none, 0, 1, 8, 1242, 1241, 0, 66),
  (⟨"EggsLastModel", "loadOf", "([II)I"⟩, prog_13_method_32_code, 4, (some .int), 0, 2, 8, 1245, 1244, 0, 66),
  (⟨"EggsLastModel", "isAbove", "([III)Z"⟩, prog_13_method_31_code, 3, (some .boolean), 0, 3, 8, 1248, 1247, 0, 66),
  (⟨"EggsLastModel", "presses", "([II)I"⟩, prog_13_method_29_code, 3, (some .int), 0, 2, 8, 1251, 1250, 0, 66),
  (⟨"EggsLastModel", "bears", "([II)I"⟩, prog_13_method_30_code, 3, (some .int), 0, 2, 8, 1254, 1253, 0, 66)]
def pm_mt6 : List pm_T := [(⟨"EggsLastModel", "layBy", "()I"⟩, prog_13_method_50_code, 2, (some .int), 1, 1, 8, 1258, 1256, 1257, 66),
  (⟨"EggsLastModel", "putIn", "(II)I"⟩, prog_13_method_51_code, 4, (some .int), 1, 3, 8, 1262, 1260, 1261, 66),
  (⟨"EggsLastModel", "isThing", "(I)Z"⟩, prog_13_method_25_code, 2, (some .boolean), 1, 2, 8, 1266, 1265, 41, 66),
  (⟨"EggsLastModel", "takeOut", "(I)I"⟩, prog_13_method_52_code, 3, (some .int), 1, 2, 8, 1270, 1268, 1269, 66),
  (⟨"EggsLastModel", "swap", "()I"⟩, prog_13_method_53_code, 5, (some .int), 1, 1, 8, 1274, 1272, 1273, 66),
  (⟨"EggsLastModel", "undo", "()I"⟩, prog_13_method_54_code, 2, (some .int), 1, 1, 8, 1278, 1276, 1277, 66),
  (⟨"EggsLastModel", "thing", "(II)I"⟩, prog_13_method_55_code, 3, (some .int), 1, 3, 8, 1282, 1280, 1281, 66),
  (⟨"EggsLastModel", "isWarm", "([II)Z"⟩, prog_13_method_43_code, 2, (some .boolean), 0, 2, 8, 1285, 1284, 0, 66),
  (⟨"EggsLastModel", "bag", "(II)I"⟩, prog_13_method_56_code, 3, (some .int), 1, 3, 8, 1289, 1287, 1288, 66),
  (⟨"EggsLastModel", "weighs", "([II)I"⟩, prog_13_method_36_code, 4, (some .int), 0, 2, 8, 1293, 1292, 0, 66),
  (⟨"EggsLastModel", "isTorn", "([II)Z"⟩, prog_13_method_37_code, 2, (some .boolean), 0, 2, 8, 1296, 1295, 0, 66),
  (⟨"EggsLastModel", "stand", "(I)I"⟩, prog_13_method_57_code, 4, (some .int), 1, 2, 8, 1300, 1298, 1299, 66),
  (⟨"EggsLastModel", "broken", "([I)I"⟩, prog_13_method_38_code, 3, (some .int), 0, 1, 8, 1303, 1302, 0, 66),
  (⟨"EggsLastModel", "least", "(I)I"⟩, prog_13_method_63_code, 3, (some .int), 1, 2, 8, 1307, 1305, 1306, 66),
  (⟨"EggsLastModel", "seekLeast", "(I)V"⟩, prog_13_method_62_code, 7, none, 1, 2, 8, 1312, 1311, 42, 66),
  (⟨"EggsLastModel", "lineUp", "(I)V"⟩, prog_13_method_58_code, 8, none, 1, 2, 8, 1316, 1315, 43, 66),
  (⟨"EggsLastModel", "waysOf", "()I"⟩, prog_13_method_59_code, 3, (some .int), 1, 1, 8, 1320, 1319, 44, 66),
  (⟨"EggsLastModel", "layWay", "(I)V"⟩, prog_13_method_61_code, 3, none, 1, 2, 8, 1324, 1323, 45, 66),
  (⟨"EggsLastModel", "layThen", "()V"⟩, prog_13_method_44_code, 2, none, 1, 1, 8, 1328, 1327, 46, 66),
  (⟨"EggsLastModel", "bagBy", "(II)I"⟩, prog_13_method_60_code, 5, (some .int), 1, 3, 8, 1332, 1331, 47, 66),
  (⟨"EggsLastModel", "heaviest", "([I)I"⟩, prog_13_method_46_code, 3, (some .int), 0, 1, 8, 1335, 1334, 0, 66),
  (⟨"EggsLastModel", "torn", "()I"⟩, prog_13_method_64_code, 6, (some .int), 1, 1, 8, 1339, 1337, 1338, 66),
  (⟨"EggsLastModel", "give", "(I)I"⟩, prog_13_method_65_code, 6, (some .int), 1, 2, 8, 1343, 1341, 1342, 66),
  (⟨"EggsLastModel", "order", "(II)I"⟩, prog_13_method_67_code, 8, (some .int), 1, 3, 8, 1347, 1345, 1346, 66),
  (⟨"EggsLastModel", "nextRow", "(I)Z"⟩, prog_13_method_66_code, 7, (some .boolean), 1, 2, 8, 1351, 1350, 48, 66),
  (⟨"EggsLastModel", "top", "(I)I"⟩, prog_13_method_68_code, 4, (some .int), 1, 2, 8, 1355, 1353, 1354, 66),
  (⟨"EggsLastModel", "spare", "(I)I"⟩, prog_13_method_69_code, 3, (some .int), 1, 2, 8, 1359, 1357, 1358, 66),
  (⟨"EggsLastModel", "beside", "(II)I"⟩, prog_13_method_70_code, 6, (some .int), 1, 3, 8, 1363, 1361, 1362, 66),
  (⟨"EggsLastModel", "even", "()I"⟩, prog_13_method_71_code, 3, (some .int), 1, 1, 8, 1367, 1365, 1366, 66),
  (⟨"EggsLastModel", "astray", "(II)I"⟩, prog_13_method_74_code, 6, (some .int), 1, 3, 8, 1371, 1369, 1370, 66),
  (⟨"EggsLastModel", "rowFound", "(III)I"⟩, prog_13_method_72_code, 4, (some .int), 1, 4, 8, 1375, 1374, 49, 66),
  (⟨"EggsLastModel", "weighSo", "(I)Z"⟩, prog_13_method_73_code, 4, (some .boolean), 1, 2, 8, 1379, 1378, 50, 66)]
def pm_mt7 : List pm_T := [(⟨"EggsLastModel", "heavy", "(III)I"⟩, prog_13_method_75_code, 7, (some .int), 1, 4, 8, 1383, 1381, 1382, 66),
  (⟨"EggsLastModel", "who", "(IIII)I"⟩, prog_13_method_77_code, 8, (some .int), 1, 5, 8, 1387, 1385, 1386, 66),
  (⟨"EggsLastModel", "brokenSo", "(I)Z"⟩, prog_13_method_76_code, 4, (some .boolean), 1, 2, 8, 1391, 1390, 51, 66),
  (⟨"EggsLastModel", "colds", "(I)I"⟩, prog_13_method_78_code, 7, (some .int), 1, 2, 8, 1395, 1393, 1394, 66),
  (⟨"EggsLastModel", "tears", "(III)J"⟩, prog_13_method_79_code, 16, (some .long), 1, 4, 8, 1399, 1397, 1398, 66),
  (⟨"EggsLastModel", "drawn", "(III)I"⟩, prog_13_method_80_code, 8, (some .int), 1, 4, 8, 1406, 1404, 1405, 66),
  (⟨"EggsLastModel", "allWeigh", "([I)I"⟩, prog_13_method_45_code, 3, (some .int), 0, 1, 8, 1413, 1412, 0, 66),
  (⟨"EggsLastModel", "image", "(I)I"⟩, prog_13_method_81_code, 3, (some .int), 1, 2, 8, 1417, 1415, 1416, 66),
  (⟨"EggsLastModel", "restore", "(I)I"⟩, prog_13_method_82_code, 3, (some .int), 1, 2, 8, 1421, 1419, 1420, 66),
  (⟨"EggsLastModel", "kind", "(I)I"⟩, prog_13_method_84_code, 2, (some .int), 1, 2, 8, 1425, 1423, 1424, 66),
  (⟨"EggsLastModel", "as", "(II)I"⟩, prog_13_method_85_code, 3, (some .int), 1, 3, 8, 1429, 1427, 1428, 66),
  (⟨"EggsLastModel", "isOf", "(II)Z"⟩, prog_13_method_83_code, 2, (some .boolean), 0, 2, 8, 1433, 1432, 0, 66),
  (⟨"EggsLastModel", "ask", "(II)I"⟩, prog_13_method_91_code, 3, (some .int), 1, 3, 8, 1437, 1435, 1436, 66),
  (⟨"EggsLastModel", "sizeOf", "(I)I"⟩, prog_13_method_90_code, 4, (some .int), 1, 2, 8, 1441, 1440, 52, 66),
  (⟨"EggsLastModel", "softSize", "(I)I"⟩, prog_13_method_88_code, 4, (some .int), 1, 2, 8, 1445, 1444, 53, 66),
  (⟨"EggsLastModel", "began", "(I)V"⟩, prog_13_method_86_code, 2, none, 1, 2, 8, 1449, 1448, 54, 66),
  (⟨"EggsLastModel", "plainSize", "(I)I"⟩, prog_13_method_87_code, 2, (some .int), 1, 2, 8, 1453, 1452, 55, 66),
  (⟨"EggsLastModel", "markOf", "(I)I"⟩, prog_13_method_89_code, 4, (some .int), 1, 2, 8, 1457, 1456, 56, 66),
  (⟨"EggsLastModel", "trace", "(I)I"⟩, prog_13_method_92_code, 2, (some .int), 1, 2, 8, 1461, 1459, 1460, 66),
  (⟨"EggsLastModel", "count", "(I)I"⟩, prog_13_method_93_code, 4, (some .int), 1, 2, 8, 1465, 1463, 1464, 66),
  (⟨"EggsLastModel", "status", "()I"⟩, prog_13_method_94_code, 1, (some .int), 1, 1, 8, 1469, 1467, 1468, 66)]
def pm_mt : List pm_T := pm_mt0 ++ pm_mt1 ++ pm_mt2 ++ pm_mt3 ++ pm_mt4 ++ pm_mt5 ++ pm_mt6 ++ pm_mt7
