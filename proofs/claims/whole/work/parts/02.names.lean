/-! names: the objects' types, the methods, the links, each by its place in lw_tbl; printed by wip/whole/gen.py -/
def RN : Nat → String := fun n => match n with
  | 0 => "RepeaterWires$Book"
  | 1 => "RepeaterWires$Choices"
  | 2 => "RepeaterWires$Draws"
  | 3 => "RepeaterWires$Front"
  | 4 => "RepeaterWires$Net"
  | 5 => "RepeaterWires$Past"
  | 6 => "RepeaterWires$Timing"
  | 7 => "RepeaterWires"
  | 8 => "RepeaterWiresModel"
  | 9 => "RepeaterWiresLaw"
  | 10 => "java/util/Arrays"
  | 11 => "java/lang/Math"
  | _ => "java/lang/Integer"
def TF_0 : u_T := fun k => match k with
  | 0 => ("RepeaterWires$Book", "nodes", "[I", true)
  | 1 => ("RepeaterWires$Book", "times", "[I", true)
  | _ => ("RepeaterWires$Book", "size", "I", false)
def tF_0 : Nat → FieldType := fun k => match k with
  | 0 => .array .int
  | 1 => .array .int
  | _ => .int
def TF_1 : u_T := fun k => match k with
  | 0 => ("RepeaterWires$Choices", "rows", "[LRepeaterWires$Front;", true)
  | 1 => ("RepeaterWires$Choices", "points", "LRepeaterWires$Front;", true)
  | 2 => ("RepeaterWires$Choices", "plainBelow", "LRepeaterWires$Front;", true)
  | 3 => ("RepeaterWires$Choices", "turnedBelow", "LRepeaterWires$Front;", true)
  | 4 => ("RepeaterWires$Choices", "joined", "LRepeaterWires$Front;", true)
  | _ => ("RepeaterWires$Choices", "fresh", "Z", false)
def tF_1 : Nat → FieldType := fun k => match k with
  | 0 => .array (.object "RepeaterWires$Front")
  | 1 => .object "RepeaterWires$Front"
  | 2 => .object "RepeaterWires$Front"
  | 3 => .object "RepeaterWires$Front"
  | 4 => .object "RepeaterWires$Front"
  | _ => .boolean
def TF_2 : u_T := fun k => match k with
  | _ => ("RepeaterWires$Draws", "seed", "I", false)
def tF_2 : Nat → FieldType := fun k => match k with
  | _ => .int
def TF_3 : u_T := fun k => match k with
  | 0 => ("RepeaterWires$Front", "size", "I", false)
  | 1 => ("RepeaterWires$Front", "shows", "[I", false)
  | 2 => ("RepeaterWires$Front", "slack", "[I", false)
  | _ => ("RepeaterWires$Front", "cost", "[I", false)
def tF_3 : Nat → FieldType := fun k => match k with
  | 0 => .int
  | 1 => .array .int
  | 2 => .array .int
  | _ => .array .int
def TF_4 : u_T := fun k => match k with
  | 0 => ("RepeaterWires$Net", "size", "I", false)
  | 1 => ("RepeaterWires$Net", "sourcePull", "I", false)
  | 2 => ("RepeaterWires$Net", "kinds", "I", false)
  | 3 => ("RepeaterWires$Net", "above", "[I", true)
  | 4 => ("RepeaterWires$Net", "wireR", "[I", true)
  | 5 => ("RepeaterWires$Net", "wireC", "[I", true)
  | 6 => ("RepeaterWires$Net", "width", "[I", true)
  | 7 => ("RepeaterWires$Net", "load", "[I", true)
  | 8 => ("RepeaterWires$Net", "need", "[I", true)
  | 9 => ("RepeaterWires$Net", "wants", "[I", true)
  | 10 => ("RepeaterWires$Net", "placed", "[I", true)
  | 11 => ("RepeaterWires$Net", "kindIn", "[I", true)
  | 12 => ("RepeaterWires$Net", "kindPull", "[I", true)
  | 13 => ("RepeaterWires$Net", "kindOwn", "[I", true)
  | 14 => ("RepeaterWires$Net", "kindCost", "[I", true)
  | _ => ("RepeaterWires$Net", "kindTurns", "[I", true)
def tF_4 : Nat → FieldType := fun k => match k with
  | 0 => .int
  | 1 => .int
  | 2 => .int
  | 3 => .array .int
  | 4 => .array .int
  | 5 => .array .int
  | 6 => .array .int
  | 7 => .array .int
  | 8 => .array .int
  | 9 => .array .int
  | 10 => .array .int
  | 11 => .array .int
  | 12 => .array .int
  | 13 => .array .int
  | 14 => .array .int
  | _ => .array .int
def TF_5 : u_T := fun k => match k with
  | 0 => ("RepeaterWires$Past", "ring", "[LRepeaterWires$Net;", true)
  | 1 => ("RepeaterWires$Past", "next", "I", false)
  | _ => ("RepeaterWires$Past", "size", "I", false)
def tF_5 : Nat → FieldType := fun k => match k with
  | 0 => .array (.object "RepeaterWires$Net")
  | 1 => .int
  | _ => .int
def TF_6 : u_T := fun k => match k with
  | 0 => ("RepeaterWires$Timing", "bears", "[I", true)
  | 1 => ("RepeaterWires$Timing", "shows", "[I", true)
  | 2 => ("RepeaterWires$Timing", "time", "[I", true)
  | 3 => ("RepeaterWires$Timing", "turned", "[I", true)
  | 4 => ("RepeaterWires$Timing", "slack", "I", false)
  | 5 => ("RepeaterWires$Timing", "worst", "I", false)
  | _ => ("RepeaterWires$Timing", "wrongEnds", "I", false)
def tF_6 : Nat → FieldType := fun k => match k with
  | 0 => .array .int
  | 1 => .array .int
  | 2 => .array .int
  | 3 => .array .int
  | 4 => .int
  | 5 => .int
  | _ => .int
def TF_7 : u_T := fun k => match k with
  | 0 => ("RepeaterWires", "net", "LRepeaterWires$Net;", true)
  | 1 => ("RepeaterWires", "trial", "LRepeaterWires$Net;", true)
  | 2 => ("RepeaterWires", "timing", "LRepeaterWires$Timing;", true)
  | 3 => ("RepeaterWires", "choices", "LRepeaterWires$Choices;", true)
  | 4 => ("RepeaterWires", "past", "LRepeaterWires$Past;", true)
  | 5 => ("RepeaterWires", "book", "LRepeaterWires$Book;", true)
  | 6 => ("RepeaterWires", "draws", "LRepeaterWires$Draws;", true)
  | 7 => ("RepeaterWires", "images", "[LRepeaterWires$Net;", true)
  | 8 => ("RepeaterWires", "imageSeeds", "[I", true)
  | _ => ("RepeaterWires", "imageKept", "[Z", true)
def tF_7 : Nat → FieldType := fun k => match k with
  | 0 => .object "RepeaterWires$Net"
  | 1 => .object "RepeaterWires$Net"
  | 2 => .object "RepeaterWires$Timing"
  | 3 => .object "RepeaterWires$Choices"
  | 4 => .object "RepeaterWires$Past"
  | 5 => .object "RepeaterWires$Book"
  | 6 => .object "RepeaterWires$Draws"
  | 7 => .array (.object "RepeaterWires$Net")
  | 8 => .array .int
  | _ => .array .boolean
def TF_8 : u_T := fun k => match k with
  | 0 => ("RepeaterWiresModel", "s", "[I", true)
  | 1 => ("RepeaterWiresModel", "seed", "I", false)
  | 2 => ("RepeaterWiresModel", "past", "[I", true)
  | 3 => ("RepeaterWiresModel", "known", "I", false)
  | 4 => ("RepeaterWiresModel", "images", "[I", true)
  | 5 => ("RepeaterWiresModel", "isKept", "[Z", true)
  | 6 => ("RepeaterWiresModel", "bookNode", "[I", true)
  | 7 => ("RepeaterWiresModel", "bookTime", "[I", true)
  | 8 => ("RepeaterWiresModel", "written", "I", false)
  | 9 => ("RepeaterWiresModel", "by", "[I", true)
  | 10 => ("RepeaterWiresModel", "wide", "[I", true)
  | 11 => ("RepeaterWiresModel", "bears", "[I", true)
  | 12 => ("RepeaterWiresModel", "shows", "[I", true)
  | 13 => ("RepeaterWiresModel", "time", "[I", true)
  | 14 => ("RepeaterWiresModel", "turned", "[I", true)
  | 15 => ("RepeaterWiresModel", "foundShows", "[I", true)
  | 16 => ("RepeaterWiresModel", "foundSlack", "[I", true)
  | 17 => ("RepeaterWiresModel", "foundCost", "[I", true)
  | 18 => ("RepeaterWiresModel", "found", "I", false)
  | _ => ("RepeaterWiresModel", "changeSlack", "I", false)
def tF_8 : Nat → FieldType := fun k => match k with
  | 0 => .array .int
  | 1 => .int
  | 2 => .array .int
  | 3 => .int
  | 4 => .array .int
  | 5 => .array .boolean
  | 6 => .array .int
  | 7 => .array .int
  | 8 => .int
  | 9 => .array .int
  | 10 => .array .int
  | 11 => .array .int
  | 12 => .array .int
  | 13 => .array .int
  | 14 => .array .int
  | 15 => .array .int
  | 16 => .array .int
  | 17 => .array .int
  | 18 => .int
  | _ => .int
def TF : Nat → u_T := fun n => match n with
  | 0 => TF_0
  | 1 => TF_1
  | 2 => TF_2
  | 3 => TF_3
  | 4 => TF_4
  | 5 => TF_5
  | 6 => TF_6
  | 7 => TF_7
  | _ => TF_8
def tF : Nat → Nat → FieldType := fun n => match n with
  | 0 => tF_0
  | 1 => tF_1
  | 2 => tF_2
  | 3 => tF_3
  | 4 => tF_4
  | 5 => tF_5
  | 6 => tF_6
  | 7 => tF_7
  | _ => tF_8
def NF : Nat → Nat := fun n => match n with
  | 0 => 3
  | 1 => 6
  | 2 => 1
  | 3 => 4
  | 4 => 16
  | 5 => 3
  | 6 => 7
  | 7 => 10
  | _ => 20
def PLF : List (List Nat) := [[290, 292, 294], [247, 249, 251, 253, 255, 257], [305], [231, 233, 235, 237], [136, 138, 140, 142, 144, 146, 148, 150, 152, 154, 156, 158, 160, 162, 164, 166], [273, 275, 277], [191, 193, 195, 197, 199, 201, 203], [318, 320, 322, 324, 326, 328, 330, 332, 334, 336], [689, 691, 693, 695, 697, 699, 701, 703, 705, 707, 709, 711, 713, 715, 717, 719, 721, 723, 725, 727]]
theorem lay_pl : ∀ c, c < 9 → ∀ k, k < NF c → lw_tbl[(PLF.getD c []).getD k 0]? = some (u_lay (RN c) (TF c) k) := by decide +kernel
theorem ty_ok : ∀ c, c < 9 → ∀ k, k < NF c → parseFieldDescriptor (TF c k).2.2.1 = some (tF c k) := by decide +kernel
theorem nm_ok : ∀ c, c < 9 → ∀ a, a < NF c → ∀ b, b < NF c → a ≠ b → (TF c a).2.1 ≠ (TF c b).2.1 := by decide +kernel
theorem own_ok : ∀ c, c < 9 → ∀ k, k < NF c → (TF c k).1 = RN c := by decide +kernel
def INL : List Nat := [281, 207, 298, 214, 73, 261, 171, 65, 664]
theorem in_pl : ∀ c, c < 9 → lw_tbl[INL.getD c 0]? = some (.instantiable (RN c) (NF c)) := by decide +kernel
def IZL : List Nat := [57, 54, 58, 55, 52, 56, 53, 51, 59, 50, 60, 61, 63]
theorem iz_pl : ∀ c, c < 13 → lw_tbl[IZL.getD c 0]? = some (.initialized (RN c)) := by decide +kernel
abbrev mtT : Type := MethodName × ByteArray × Nat × Option FieldType × Nat × Nat × Nat
def MTL : List mtT := [
  (⟨"RepeaterWires$Book", "<init>", "()V"⟩, prog_2_method_1_code, 1, none, 0, 0, 1),
  (⟨"RepeaterWires$Book", "add", "(II)V"⟩, prog_2_method_2_code, 3, none, 0, 2, 1),
  (⟨"RepeaterWires$Book", "wrongEntry", "(I[I)I"⟩, prog_2_method_3_code, 5, some (.int), 0, 2, 1),
  (⟨"RepeaterWires$Choices", "<init>", "()V"⟩, prog_3_method_1_code, 2, none, 1, 0, 1),
  (⟨"RepeaterWires$Choices", "forget", "()V"⟩, prog_3_method_2_code, 1, none, 1, 0, 1),
  (⟨"RepeaterWires$Choices", "row", "(II)LRepeaterWires$Front;"⟩, prog_3_method_3_code, 3, some ((.object "RepeaterWires$Front")), 1, 2, 1),
  (⟨"RepeaterWires$Choices", "of", "(LRepeaterWires$Net;)LRepeaterWires$Choices;"⟩, prog_3_method_4_code, 5, some ((.object "RepeaterWires$Choices")), 1, 1, 1),
  (⟨"RepeaterWires$Choices", "gather", "(LRepeaterWires$Net;IIZLRepeaterWires$Front;)V"⟩, prog_3_method_5_code, 7, none, 1, 5, 1),
  (⟨"RepeaterWires$Choices", "join", "(LRepeaterWires$Net;ILRepeaterWires$Front;LRepeaterWires$Front;)V"⟩, prog_3_method_6_code, 10, none, 1, 4, 1),
  (⟨"RepeaterWires$Choices", "equip", "(LRepeaterWires$Net;II)V"⟩, prog_3_method_7_code, 8, none, 1, 3, 1),
  (⟨"RepeaterWires$Choices", "driveAll", "(LRepeaterWires$Net;ILRepeaterWires$Front;LRepeaterWires$Front;)V"⟩, prog_3_method_8_code, 7, none, 1, 4, 1),
  (⟨"RepeaterWires$Choices", "pickPoints", "(LRepeaterWires$Net;)V"⟩, prog_3_method_9_code, 4, none, 1, 1, 1),
  (⟨"RepeaterWires$Draws", "<init>", "()V"⟩, prog_4_method_1_code, 1, none, 2, 0, 1),
  (⟨"RepeaterWires$Draws", "next", "(I)I"⟩, prog_4_method_2_code, 2, some (.int), 2, 1, 1),
  (⟨"RepeaterWires$Front", "<init>", "()V"⟩, prog_5_method_1_code, 1, none, 3, 0, 1),
  (⟨"RepeaterWires$Front", "clear", "()V"⟩, prog_5_method_2_code, 1, none, 3, 0, 1),
  (⟨"RepeaterWires$Front", "offer", "(III)V"⟩, prog_5_method_3_code, 5, none, 3, 3, 1),
  (⟨"RepeaterWires$Front", "swapWith", "(LRepeaterWires$Front;)V"⟩, prog_5_method_4_code, 6, none, 3, 1, 1),
  (⟨"RepeaterWires$Front", "standsAhead", "(III)Z"⟩, prog_5_method_5_code, 4, some (.boolean), 3, 3, 1),
  (⟨"RepeaterWires$Front", "dropBeaten", "(III)V"⟩, prog_5_method_6_code, 6, none, 3, 3, 1),
  (⟨"RepeaterWires$Front", "insert", "(IIII)V"⟩, prog_5_method_7_code, 5, none, 3, 4, 1),
  (⟨"RepeaterWires$Front", "widen", "()Z"⟩, prog_5_method_8_code, 2, some (.boolean), 3, 0, 1),
  (⟨"RepeaterWires$Net", "<init>", "()V"⟩, prog_6_method_1_code, 1, none, 4, 0, 1),
  (⟨"RepeaterWires$Net", "copyFrom", "(LRepeaterWires$Net;)V"⟩, prog_6_method_2_code, 2, none, 4, 1, 1),
  (⟨"RepeaterWires$Net", "hasNode", "(I)Z"⟩, prog_6_method_3_code, 2, some (.boolean), 4, 1, 1),
  (⟨"RepeaterWires$Net", "hasKind", "(I)Z"⟩, prog_6_method_4_code, 2, some (.boolean), 4, 1, 1),
  (⟨"RepeaterWires$Net", "canBePlaced", "(I)Z"⟩, prog_6_method_5_code, 2, some (.boolean), 4, 1, 1),
  (⟨"RepeaterWires$Net", "hasRoom", "()Z"⟩, prog_6_method_6_code, 1, some (.boolean), 4, 0, 1),
  (⟨"RepeaterWires$Net", "ends", "()I"⟩, prog_6_method_7_code, 4, some (.int), 4, 0, 1),
  (⟨"RepeaterWires$Net", "isEnd", "(I)Z"⟩, prog_6_method_8_code, 2, some (.boolean), 4, 1, 1),
  (⟨"RepeaterWires$Net", "isPlaced", "(I)Z"⟩, prog_6_method_9_code, 3, some (.boolean), 4, 1, 1),
  (⟨"RepeaterWires$Net", "costOfAll", "()I"⟩, prog_6_method_10_code, 3, some (.int), 4, 0, 1),
  (⟨"RepeaterWires$Net", "grow", "(III)I"⟩, prog_6_method_11_code, 5, some (.int), 4, 3, 1),
  (⟨"RepeaterWires$Net", "tellEnd", "(IIII)V"⟩, prog_6_method_12_code, 5, none, 4, 4, 1),
  (⟨"RepeaterWires$Net", "wireTime", "(II)I"⟩, prog_6_method_13_code, 4, some (.int), 4, 2, 1),
  (⟨"RepeaterWires$Past", "<init>", "()V"⟩, prog_7_method_1_code, 2, none, 5, 0, 1),
  (⟨"RepeaterWires$Past", "push", "(LRepeaterWires$Net;)V"⟩, prog_7_method_2_code, 2, none, 5, 1, 1),
  (⟨"RepeaterWires$Past", "goBackBy", "(ILRepeaterWires$Net;)V"⟩, prog_7_method_3_code, 3, none, 5, 2, 1),
  (⟨"RepeaterWires$Timing", "<init>", "()V"⟩, prog_8_method_1_code, 1, none, 6, 0, 1),
  (⟨"RepeaterWires$Timing", "of", "(LRepeaterWires$Net;)LRepeaterWires$Timing;"⟩, prog_8_method_2_code, 3, some ((.object "RepeaterWires$Timing")), 6, 1, 1),
  (⟨"RepeaterWires$Timing", "weigh", "(LRepeaterWires$Net;I)V"⟩, prog_8_method_3_code, 5, none, 6, 2, 1),
  (⟨"RepeaterWires$Timing", "run", "(LRepeaterWires$Net;)V"⟩, prog_8_method_4_code, 5, none, 6, 1, 1),
  (⟨"RepeaterWires$Timing", "judge", "(LRepeaterWires$Net;I)V"⟩, prog_8_method_5_code, 4, none, 6, 2, 1),
  (⟨"RepeaterWires", "<init>", "()V"⟩, prog_1_method_1_code, 2, none, 7, 0, 1),
  (⟨"RepeaterWires", "told", "(I)I"⟩, prog_1_method_2_code, 2, some (.int), 7, 1, 1),
  (⟨"RepeaterWires", "at", "(II)I"⟩, prog_1_method_3_code, 3, some (.int), 7, 2, 1),
  (⟨"RepeaterWires", "kindAt", "(II)I"⟩, prog_1_method_4_code, 3, some (.int), 7, 2, 1),
  (⟨"RepeaterWires", "candidates", "(II)I"⟩, prog_1_method_5_code, 3, some (.int), 7, 2, 1),
  (⟨"RepeaterWires", "candidate", "(IIII)I"⟩, prog_1_method_6_code, 6, some (.int), 7, 4, 1),
  (⟨"RepeaterWires", "point", "(II)I"⟩, prog_1_method_7_code, 4, some (.int), 7, 2, 1),
  (⟨"RepeaterWires", "best", "(I)I"⟩, prog_1_method_8_code, 5, some (.int), 7, 1, 1),
  (⟨"RepeaterWires", "least", "(I)I"⟩, prog_1_method_9_code, 4, some (.int), 7, 1, 1),
  (⟨"RepeaterWires", "would", "(II)I"⟩, prog_1_method_10_code, 3, some (.int), 7, 2, 1),
  (⟨"RepeaterWires", "node", "(III)I"⟩, prog_1_method_11_code, 4, some (.int), 7, 3, 1),
  (⟨"RepeaterWires", "end", "(IIII)I"⟩, prog_1_method_12_code, 5, some (.int), 7, 4, 1),
  (⟨"RepeaterWires", "wire", "(IIII)I"⟩, prog_1_method_13_code, 5, some (.int), 7, 4, 1),
  (⟨"RepeaterWires", "pull", "(I)I"⟩, prog_1_method_14_code, 3, some (.int), 7, 1, 1),
  (⟨"RepeaterWires", "kind", "(IIIIII)I"⟩, prog_1_method_15_code, 8, some (.int), 7, 6, 1),
  (⟨"RepeaterWires", "drop", "(I)I"⟩, prog_1_method_16_code, 2, some (.int), 7, 1, 1),
  (⟨"RepeaterWires", "place", "(II)I"⟩, prog_1_method_17_code, 4, some (.int), 7, 2, 1),
  (⟨"RepeaterWires", "take", "()I"⟩, prog_1_method_18_code, 1, some (.int), 7, 0, 1),
  (⟨"RepeaterWires", "change", "()I"⟩, prog_1_method_19_code, 2, some (.int), 7, 0, 1),
  (⟨"RepeaterWires", "drift", "(I)I"⟩, prog_1_method_20_code, 3, some (.int), 7, 1, 1),
  (⟨"RepeaterWires", "undo", "(I)I"⟩, prog_1_method_21_code, 2, some (.int), 7, 1, 1),
  (⟨"RepeaterWires", "write", "(II)I"⟩, prog_1_method_22_code, 3, some (.int), 7, 2, 1),
  (⟨"RepeaterWires", "tear", "()I"⟩, prog_1_method_23_code, 2, some (.int), 7, 0, 1),
  (⟨"RepeaterWires", "seed", "(I)I"⟩, prog_1_method_24_code, 3, some (.int), 7, 1, 1),
  (⟨"RepeaterWires", "keep", "(I)I"⟩, prog_1_method_25_code, 2, some (.int), 7, 1, 1),
  (⟨"RepeaterWires", "goBack", "(I)I"⟩, prog_1_method_26_code, 2, some (.int), 7, 1, 1),
  (⟨"RepeaterWires", "within", "(III)Z"⟩, prog_1_method_27_code, 3, some (.boolean), 7, 3, 0),
  (⟨"RepeaterWires", "deedComes", "()V"⟩, prog_1_method_28_code, 1, none, 7, 0, 1),
  (⟨"RepeaterWires", "growByDraws", "()V"⟩, prog_1_method_29_code, 8, none, 7, 0, 1),
  (⟨"RepeaterWires", "ofWire", "(II)I"⟩, prog_1_method_30_code, 3, some (.int), 7, 2, 1),
  (⟨"RepeaterWires", "ofEnd", "(II)I"⟩, prog_1_method_31_code, 3, some (.int), 7, 2, 1),
  (⟨"RepeaterWires", "ofTiming", "(II)I"⟩, prog_1_method_32_code, 3, some (.int), 7, 2, 1),
  (⟨"RepeaterWires", "widest", "()I"⟩, prog_1_method_33_code, 4, some (.int), 7, 0, 1),
  (⟨"RepeaterWires", "findChange", "()I"⟩, prog_1_method_34_code, 9, some (.int), 7, 0, 1),
  (⟨"RepeaterWiresModel", "<init>", "()V"⟩, prog_10_method_1_code, 1, none, 8, 0, 1),
  (⟨"RepeaterWiresModel", "in", "(III)Z"⟩, prog_10_method_2_code, 3, some (.boolean), 8, 3, 0),
  (⟨"RepeaterWiresModel", "of", "(II)I"⟩, prog_10_method_3_code, 3, some (.int), 8, 2, 1),
  (⟨"RepeaterWiresModel", "ofKind", "(II)I"⟩, prog_10_method_4_code, 3, some (.int), 8, 2, 1),
  (⟨"RepeaterWiresModel", "isNode", "(I)Z"⟩, prog_10_method_5_code, 2, some (.boolean), 8, 1, 1),
  (⟨"RepeaterWiresModel", "isKind", "(I)Z"⟩, prog_10_method_6_code, 2, some (.boolean), 8, 1, 1),
  (⟨"RepeaterWiresModel", "isEnd", "(I)Z"⟩, prog_10_method_7_code, 4, some (.boolean), 8, 1, 1),
  (⟨"RepeaterWiresModel", "isBelow", "(II)Z"⟩, prog_10_method_8_code, 4, some (.boolean), 8, 2, 1),
  (⟨"RepeaterWiresModel", "asPlaced", "()V"⟩, prog_10_method_9_code, 2, none, 8, 0, 1),
  (⟨"RepeaterWiresModel", "weighs", "()V"⟩, prog_10_method_10_code, 4, none, 8, 0, 1),
  (⟨"RepeaterWiresModel", "adds", "(I)I"⟩, prog_10_method_11_code, 2, some (.int), 8, 1, 1),
  (⟨"RepeaterWiresModel", "runs", "(III)V"⟩, prog_10_method_12_code, 8, none, 8, 3, 1),
  (⟨"RepeaterWiresModel", "runsAll", "()V"⟩, prog_10_method_13_code, 1, none, 8, 0, 1),
  (⟨"RepeaterWiresModel", "slack", "(I)I"⟩, prog_10_method_14_code, 5, some (.int), 8, 1, 1),
  (⟨"RepeaterWiresModel", "wrong", "(I)I"⟩, prog_10_method_15_code, 4, some (.int), 8, 1, 1),
  (⟨"RepeaterWiresModel", "cost", "(I)I"⟩, prog_10_method_16_code, 4, some (.int), 8, 1, 1),
  (⟨"RepeaterWiresModel", "slackNow", "()I"⟩, prog_10_method_17_code, 1, some (.int), 8, 0, 1),
  (⟨"RepeaterWiresModel", "isNext", "(I)Z"⟩, prog_10_method_18_code, 3, some (.boolean), 8, 1, 1),
  (⟨"RepeaterWiresModel", "isBeaten", "(IIIIII)Z"⟩, prog_10_method_19_code, 6, some (.boolean), 8, 6, 0),
  (⟨"RepeaterWiresModel", "meets", "(III)V"⟩, prog_10_method_20_code, 6, none, 8, 3, 1),
  (⟨"RepeaterWiresModel", "seeks", "(II)V"⟩, prog_10_method_21_code, 4, none, 8, 2, 1),
  (⟨"RepeaterWiresModel", "seeksPoints", "()V"⟩, prog_10_method_22_code, 2, none, 8, 0, 1),
  (⟨"RepeaterWiresModel", "widest", "()I"⟩, prog_10_method_23_code, 4, some (.int), 8, 0, 1),
  (⟨"RepeaterWiresModel", "changeNow", "()I"⟩, prog_10_method_24_code, 8, some (.int), 8, 0, 1),
  (⟨"RepeaterWiresModel", "wrongEntry", "()I"⟩, prog_10_method_25_code, 3, some (.int), 8, 0, 1),
  (⟨"RepeaterWiresModel", "ends", "()I"⟩, prog_10_method_26_code, 3, some (.int), 8, 0, 1),
  (⟨"RepeaterWiresModel", "worst", "()I"⟩, prog_10_method_27_code, 3, some (.int), 8, 0, 1),
  (⟨"RepeaterWiresModel", "kindsThere", "()I"⟩, prog_10_method_28_code, 3, some (.int), 8, 0, 1),
  (⟨"RepeaterWiresModel", "told", "(I)I"⟩, prog_10_method_29_code, 2, some (.int), 8, 1, 1),
  (⟨"RepeaterWiresModel", "toldMore", "(I)I"⟩, prog_10_method_30_code, 2, some (.int), 8, 1, 1),
  (⟨"RepeaterWiresModel", "at", "(II)I"⟩, prog_10_method_31_code, 3, some (.int), 8, 2, 1),
  (⟨"RepeaterWiresModel", "kindAt", "(II)I"⟩, prog_10_method_32_code, 3, some (.int), 8, 2, 1),
  (⟨"RepeaterWiresModel", "candidates", "(II)I"⟩, prog_10_method_33_code, 3, some (.int), 8, 2, 1),
  (⟨"RepeaterWiresModel", "candidate", "(IIII)I"⟩, prog_10_method_34_code, 5, some (.int), 8, 4, 1),
  (⟨"RepeaterWiresModel", "point", "(II)I"⟩, prog_10_method_35_code, 3, some (.int), 8, 2, 1),
  (⟨"RepeaterWiresModel", "best", "(I)I"⟩, prog_10_method_36_code, 5, some (.int), 8, 1, 1),
  (⟨"RepeaterWiresModel", "least", "(I)I"⟩, prog_10_method_37_code, 4, some (.int), 8, 1, 1),
  (⟨"RepeaterWiresModel", "isPlaceable", "(II)Z"⟩, prog_10_method_38_code, 3, some (.boolean), 8, 2, 1),
  (⟨"RepeaterWiresModel", "would", "(II)I"⟩, prog_10_method_39_code, 3, some (.int), 8, 2, 1),
  (⟨"RepeaterWiresModel", "deed", "()V"⟩, prog_10_method_40_code, 2, none, 8, 0, 1),
  (⟨"RepeaterWiresModel", "sets", "(III)V"⟩, prog_10_method_41_code, 4, none, 8, 3, 1),
  (⟨"RepeaterWiresModel", "comes", "(III)I"⟩, prog_10_method_42_code, 5, some (.int), 8, 3, 1),
  (⟨"RepeaterWiresModel", "node", "(III)I"⟩, prog_10_method_43_code, 4, some (.int), 8, 3, 1),
  (⟨"RepeaterWiresModel", "end", "(IIII)I"⟩, prog_10_method_44_code, 5, some (.int), 8, 4, 1),
  (⟨"RepeaterWiresModel", "wire", "(IIII)I"⟩, prog_10_method_45_code, 5, some (.int), 8, 4, 1),
  (⟨"RepeaterWiresModel", "pull", "(I)I"⟩, prog_10_method_46_code, 3, some (.int), 8, 1, 1),
  (⟨"RepeaterWiresModel", "kind", "(IIIIII)I"⟩, prog_10_method_47_code, 9, some (.int), 8, 6, 1),
  (⟨"RepeaterWiresModel", "drop", "(I)I"⟩, prog_10_method_48_code, 3, some (.int), 8, 1, 1),
  (⟨"RepeaterWiresModel", "place", "(II)I"⟩, prog_10_method_49_code, 4, some (.int), 8, 2, 1),
  (⟨"RepeaterWiresModel", "take", "()I"⟩, prog_10_method_50_code, 1, some (.int), 8, 0, 1),
  (⟨"RepeaterWiresModel", "change", "()I"⟩, prog_10_method_51_code, 2, some (.int), 8, 0, 1),
  (⟨"RepeaterWiresModel", "draws", "(I)I"⟩, prog_10_method_52_code, 2, some (.int), 8, 1, 1),
  (⟨"RepeaterWiresModel", "drift", "(I)I"⟩, prog_10_method_53_code, 7, some (.int), 8, 1, 1),
  (⟨"RepeaterWiresModel", "undo", "(I)I"⟩, prog_10_method_54_code, 3, some (.int), 8, 1, 1),
  (⟨"RepeaterWiresModel", "write", "(II)I"⟩, prog_10_method_55_code, 3, some (.int), 8, 2, 1),
  (⟨"RepeaterWiresModel", "tear", "()I"⟩, prog_10_method_56_code, 2, some (.int), 8, 0, 1),
  (⟨"RepeaterWiresModel", "seed", "(I)I"⟩, prog_10_method_57_code, 3, some (.int), 8, 1, 1),
  (⟨"RepeaterWiresModel", "keep", "(I)I"⟩, prog_10_method_58_code, 3, some (.int), 8, 1, 1),
  (⟨"RepeaterWiresModel", "goBack", "(I)I"⟩, prog_10_method_59_code, 3, some (.int), 8, 1, 1),
  (⟨"java/lang/Integer", "bitCount", "(I)I"⟩, prog_12_method_49_code, 1, some (.int), 12, 1, 0),
  (⟨"java/lang/Math", "max", "(II)I"⟩, prog_13_method_65_code, 2, some (.int), 11, 2, 0),
  (⟨"java/lang/Math", "min", "(II)I"⟩, prog_13_method_69_code, 2, some (.int), 11, 2, 0),
  (⟨"java/util/Arrays", "copyOf", "([II)[I"⟩, prog_15_method_123_code, 3, some ((.array .int)), 10, 2, 0),
  (⟨"RepeaterWiresLaw", "law", "([I)Z"⟩, code, 4, some .boolean, 9, 1, 0)]
def MTD : mtT := (⟨"", "", ""⟩, ⟨#[]⟩, 0, none, 0, 0, 0)
def mT (q : Nat) : mtT := MTL.getD q MTD
def mY (q : Nat) : MethodName := (mT q).1
def mB (q : Nat) : ByteArray := (mT q).2.1
def mL (q : Nat) : Nat := (mT q).2.2.1
def mR (q : Nat) : Option FieldType := (mT q).2.2.2.1
def mO (q : Nat) : Nat := (mT q).2.2.2.2.1
def mN (q : Nat) : Nat := (mT q).2.2.2.2.2.1
def mS (q : Nat) : Nat := (mT q).2.2.2.2.2.2
def MPL : List (Nat × Nat × Nat) := [(284, 283, 0), (646, 644, 645), (479, 477, 478), (210, 209, 0), (563, 561, 562), (428, 426, 427), (377, 375, 376), (382, 381, 3), (432, 431, 8), (442, 441, 9), (450, 449, 10), (454, 453, 11), (301, 300, 0), (626, 624, 625), (217, 216, 0), (386, 384, 385), (390, 388, 389), (438, 436, 437), (394, 393, 4), (398, 397, 5), (422, 421, 7), (402, 401, 6), (76, 75, 0), (462, 460, 461), (488, 486, 487), (446, 444, 445), (474, 472, 473), (548, 546, 547), (347, 345, 346), (500, 498, 499), (596, 594, 595), (351, 349, 350), (567, 565, 566), (571, 569, 570), (368, 366, 367), (264, 263, 0), (557, 555, 556), (638, 636, 637), (174, 173, 0), (355, 353, 354), (360, 359, 0), (364, 363, 1), (372, 371, 2), (68, 67, 0), (343, 341, 342), (484, 482, 483), (513, 511, 512), (518, 516, 517), (523, 521, 522), (527, 525, 526), (531, 529, 530), (535, 533, 534), (539, 537, 538), (544, 542, 543), (575, 573, 574), (580, 578, 579), (584, 582, 583), (588, 586, 587), (592, 590, 591), (606, 604, 605), (610, 608, 609), (614, 612, 613), (618, 616, 617), (634, 632, 633), (642, 640, 641), (650, 648, 649), (654, 652, 653), (658, 656, 657), (662, 660, 661), (492, 491, 0), (553, 552, 17), (622, 621, 18), (496, 495, 14), (505, 504, 15), (509, 508, 16), (458, 457, 12), (470, 469, 13), (667, 666, 0), (756, 755, 0), (745, 744, 21), (760, 759, 24), (841, 840, 43), (753, 752, 23), (741, 740, 20), (772, 771, 27), (764, 763, 25), (784, 783, 30), (792, 791, 32), (788, 787, 31), (780, 779, 29), (796, 795, 33), (806, 805, 35), (768, 767, 26), (776, 775, 28), (821, 820, 38), (817, 816, 0), (814, 813, 37), (859, 858, 44), (810, 809, 36), (825, 824, 39), (833, 832, 41), (837, 836, 42), (737, 736, 19), (802, 801, 34), (749, 748, 22), (733, 731, 732), (829, 828, 40), (846, 844, 845), (851, 849, 850), (855, 853, 854), (863, 861, 862), (867, 865, 866), (871, 869, 870), (875, 873, 874), (883, 882, 45), (879, 877, 878), (893, 892, 46), (901, 900, 48), (897, 896, 47), (888, 886, 887), (905, 903, 904), (909, 907, 908), (913, 911, 912), (917, 915, 916), (921, 919, 920), (925, 923, 924), (929, 927, 928), (933, 931, 932), (941, 940, 49), (937, 935, 936), (949, 947, 948), (953, 951, 952), (957, 955, 956), (961, 959, 960), (965, 963, 964), (969, 967, 968), (599, 598, 0), (466, 465, 0), (415, 414, 0), (405, 404, 0), (0, 0, 0)]
def mP (q : Nat) : Nat × Nat × Nat := MPL.getD q (0, 0, 0)
def qLaw : Nat := 140
theorem mi_pl : ∀ q, q < 140 → lw_tbl[(mP q).2.1]? = some (if mS q = 0 then .static (mY q) else .instanceMethod (mY q)) := by decide +kernel
theorem ms_pl : ∀ q, q < 140 → mS q = 1 → (mY q).name ≠ "<init>" → lw_tbl[(mP q).2.2]? = some (.selects (mY q).cls (mY q) (mY q)) := by decide +kernel
theorem mo_ok : ∀ q, q < 140 → (mY q).cls = RN (mO q) ∧ mO q < 13 ∧ mL q ≤ 16 := by decide +kernel
theorem mh_ok : ∀ c, c < 13 → RN c ≠ "java/lang/invoke/MethodHandle" ∧ RN c ≠ "java/lang/invoke/VarHandle" := by decide +kernel
theorem mq_ok : ∀ q, q < 140 → plainFor (mY q) = true := by decide +kernel
theorem md_ok : ∀ q, q < 140 → (parseMethodDescriptor (mY q).desc).map (fun d => d.parameters.length) = some (mN q) := by decide +kernel
def FLK : List (Nat × Nat × Nat × Nat × Nat) := [(0, 9, 0, 0, 286), (0, 15, 0, 1, 287), (0, 18, 0, 2, 288), (1, 11, 1, 0, 240), (1, 18, 1, 1, 241), (1, 22, 1, 2, 243), (1, 25, 1, 3, 244), (1, 28, 1, 4, 245), (1, 31, 1, 5, 246), (1, 41, 4, 0, 81), (1, 68, 4, 9, 111), (1, 72, 4, 7, 104), (1, 75, 4, 8, 107), (1, 83, 4, 3, 90), (1, 90, 4, 5, 96), (1, 93, 4, 6, 100), (1, 96, 3, 0, 221), (1, 97, 3, 1, 223), (1, 100, 3, 2, 226), (1, 112, 3, 3, 229), (1, 119, 4, 15, 135), (1, 125, 4, 13, 128), (1, 128, 4, 12, 124), (1, 131, 4, 11, 120), (1, 134, 4, 14, 131), (1, 137, 4, 1, 85), (2, 7, 2, 0, 303), (3, 9, 3, 0, 219), (3, 15, 3, 1, 222), (3, 19, 3, 2, 225), (3, 22, 3, 3, 228), (4, 9, 4, 0, 78), (4, 15, 4, 1, 82), (4, 18, 4, 2, 86), (4, 21, 4, 3, 88), (4, 25, 4, 4, 92), (4, 28, 4, 5, 94), (4, 31, 4, 6, 98), (4, 34, 4, 7, 102), (4, 37, 4, 8, 106), (4, 40, 4, 9, 110), (4, 43, 4, 10, 114), (4, 46, 4, 11, 117), (4, 49, 4, 12, 121), (4, 52, 4, 13, 125), (4, 55, 4, 14, 129), (4, 58, 4, 15, 132), (5, 11, 5, 0, 269), (5, 17, 5, 1, 270), (5, 21, 5, 2, 271), (6, 9, 6, 0, 177), (6, 15, 6, 1, 179), (6, 18, 6, 2, 181), (6, 21, 6, 3, 183), (6, 25, 6, 4, 185), (6, 29, 6, 5, 187), (6, 32, 6, 6, 189), (6, 52, 4, 0, 80), (6, 55, 4, 7, 103), (6, 58, 4, 10, 115), (6, 61, 4, 11, 118), (6, 64, 4, 3, 89), (6, 67, 4, 5, 95), (6, 70, 4, 6, 99), (6, 73, 4, 1, 84), (6, 80, 4, 13, 127), (6, 83, 4, 12, 123), (6, 86, 4, 15, 134), (6, 89, 4, 8, 108), (6, 92, 4, 9, 112), (7, 10, 7, 0, 308), (7, 16, 7, 1, 309), (7, 22, 7, 2, 310), (7, 29, 7, 3, 311), (7, 36, 7, 4, 312), (7, 43, 7, 5, 313), (7, 50, 7, 6, 314), (7, 54, 7, 7, 315), (7, 58, 7, 8, 316), (7, 62, 7, 9, 317), (7, 66, 4, 0, 79), (7, 74, 4, 1, 83), (7, 77, 4, 2, 87), (7, 87, 6, 4, 186), (7, 91, 6, 5, 188), (7, 94, 6, 6, 190), (7, 100, 1, 1, 242), (7, 104, 3, 0, 220), (7, 113, 0, 2, 289), (7, 114, 6, 2, 182), (7, 121, 5, 2, 272), (7, 122, 2, 0, 304), (7, 145, 4, 10, 116), (7, 154, 4, 11, 119), (7, 157, 4, 12, 122), (7, 160, 4, 13, 126), (7, 163, 4, 14, 130), (7, 166, 4, 15, 133), (7, 173, 3, 1, 224), (7, 176, 3, 2, 227), (7, 178, 3, 3, 230), (7, 205, 4, 4, 93), (7, 208, 4, 5, 97), (7, 211, 4, 6, 101), (7, 243, 4, 3, 91), (7, 246, 4, 7, 105), (7, 249, 4, 8, 109), (7, 252, 4, 9, 113), (7, 255, 6, 0, 178), (7, 258, 6, 1, 180), (7, 259, 6, 3, 184), (8, 7, 8, 0, 669), (8, 13, 8, 2, 671), (8, 16, 8, 4, 673), (8, 19, 8, 5, 674), (8, 23, 8, 6, 675), (8, 26, 8, 7, 676), (8, 29, 8, 9, 678), (8, 32, 8, 10, 679), (8, 35, 8, 11, 680), (8, 38, 8, 12, 681), (8, 41, 8, 13, 682), (8, 44, 8, 14, 683), (8, 47, 8, 15, 684), (8, 50, 8, 16, 685), (8, 53, 8, 17, 686), (8, 99, 8, 18, 687), (8, 119, 8, 19, 688), (8, 126, 8, 8, 677), (8, 157, 8, 3, 672), (8, 160, 8, 1, 670)]
theorem FLK_pl : ∀ x ∈ FLK, lw_tbl[x.2.2.2.2]? = some (.fieldLink (RN x.1) x.2.1 (TF x.2.2.1 x.2.2.2.1).1 (TF x.2.2.1 x.2.2.2.1).2.1 (TF x.2.2.1 x.2.2.2.1).2.2.1) := by decide +kernel
theorem FLK_ok : ∀ x ∈ FLK, x.2.2.1 < 9 ∧ x.2.2.2.1 < NF x.2.2.1 := by decide +kernel
def MLK : List (Nat × Nat × Nat × Nat) := [(1, 35, 28, 378), (1, 45, 7, 379), (1, 49, 5, 425), (1, 53, 17, 435), (1, 57, 9, 439), (1, 61, 11, 451), (1, 65, 15, 383), (1, 78, 16, 387), (1, 86, 8, 429), (1, 103, 34, 433), (1, 107, 138, 434), (1, 115, 25, 443), (1, 122, 10, 447), (3, 25, 18, 391), (3, 29, 19, 395), (3, 33, 21, 399), (3, 37, 20, 419), (3, 47, 139, 403), (4, 67, 25, 475), (4, 71, 28, 501), (4, 75, 33, 568), (5, 25, 23, 558), (5, 29, 138, 559), (6, 35, 28, 356), (6, 41, 40, 357), (6, 45, 41, 361), (6, 49, 42, 369), (6, 76, 34, 365), (7, 28, 3, 208), (7, 35, 35, 262), (7, 70, 28, 344), (7, 80, 31, 348), (7, 83, 39, 352), (7, 97, 6, 374), (7, 107, 75, 455), (7, 110, 76, 467), (7, 117, 2, 476), (7, 126, 24, 485), (7, 131, 69, 490), (7, 135, 72, 493), (7, 139, 29, 497), (7, 142, 73, 502), (7, 148, 74, 506), (7, 151, 25, 514), (7, 169, 5, 519), (7, 181, 26, 471), (7, 185, 23, 459), (7, 189, 27, 545), (7, 194, 70, 550), (7, 197, 32, 564), (7, 201, 33, 576), (7, 214, 30, 593), (7, 217, 136, 597), (7, 223, 71, 619), (7, 226, 37, 635), (7, 230, 4, 560), (7, 233, 1, 643), (7, 237, 36, 554), (7, 240, 13, 623), (7, 262, 137, 464), (8, 56, 78, 754), (8, 60, 80, 757), (8, 64, 79, 742), (8, 67, 83, 738), (8, 71, 86, 781), (8, 74, 84, 769), (8, 78, 87, 789), (8, 82, 88, 785), (8, 87, 85, 761), (8, 90, 89, 777), (8, 93, 90, 793), (8, 96, 82, 750), (8, 103, 95, 815), (8, 107, 91, 803), (8, 110, 92, 765), (8, 113, 96, 811), (8, 116, 94, 818), (8, 122, 93, 773), (8, 129, 81, 838), (8, 132, 102, 734), (8, 135, 104, 746), (8, 139, 103, 799), (8, 142, 98, 807), (8, 145, 99, 822), (8, 148, 106, 826), (8, 151, 100, 830), (8, 154, 101, 834), (8, 165, 97, 856), (8, 169, 114, 880), (8, 173, 117, 898), (8, 177, 116, 890), (8, 180, 118, 894), (8, 191, 128, 938), (9, 9, 43, 66), (9, 12, 77, 665), (9, 13, 44, 340), (9, 17, 105, 730), (9, 18, 45, 481), (9, 22, 107, 843), (9, 23, 46, 510), (9, 26, 108, 848), (9, 27, 47, 515), (9, 30, 109, 852), (9, 31, 48, 520), (9, 35, 110, 860), (9, 36, 49, 524), (9, 39, 111, 864), (9, 40, 50, 528), (9, 43, 112, 868), (9, 44, 51, 532), (9, 47, 113, 872), (9, 48, 52, 536), (9, 51, 115, 876), (9, 52, 53, 541), (9, 56, 119, 885), (9, 57, 54, 572), (9, 60, 120, 902), (9, 61, 55, 577), (9, 64, 121, 906), (9, 65, 56, 581), (9, 68, 122, 910), (9, 69, 57, 585), (9, 73, 123, 914), (9, 74, 58, 589), (9, 77, 124, 918), (9, 78, 59, 603), (9, 81, 125, 922), (9, 82, 60, 607), (9, 86, 126, 926), (9, 87, 61, 611), (9, 90, 127, 930), (9, 91, 62, 615), (9, 94, 129, 934), (9, 95, 63, 631), (9, 98, 130, 946), (9, 99, 64, 639), (9, 102, 131, 950), (9, 103, 65, 647), (9, 106, 132, 954), (9, 107, 66, 651), (9, 110, 133, 958), (9, 111, 67, 655), (9, 114, 134, 962), (9, 115, 68, 659), (9, 118, 135, 966), (10, 304, 138, 413)]
theorem MLK_pl : ∀ x ∈ MLK, lw_tbl[x.2.2.2]? = some (.methodLink (RN x.1) x.2.1 (mY x.2.2.1)) := by decide +kernel
def NLK : List (Nat × Nat × Nat × Nat) := [(1, 17, 14, 215), (5, 24, 22, 268), (7, 9, 22, 74), (7, 21, 38, 172), (7, 42, 0, 282), (7, 49, 12, 299)]
theorem NLK_pl : ∀ x ∈ NLK, lw_tbl[x.2.2.2]? = some (.methodLinkNest (RN x.1) x.2.1 (mY x.2.2.1) "RepeaterWires") := by decide +kernel
def CLK : List (Nat × Nat × Nat × Nat) := [(1, 9, 3, 212), (5, 9, 4, 266), (7, 7, 4, 72), (7, 19, 6, 170), (7, 26, 1, 206), (7, 33, 5, 260), (7, 40, 0, 280), (7, 47, 2, 297), (9, 7, 7, 64), (9, 10, 8, 663)]
theorem CLK_pl : ∀ x ∈ CLK, lw_tbl[x.2.2.2]? = some (.classLink (RN x.1) x.2.1 (RN x.2.2.1)) := by decide +kernel
def CST : List (Nat × Nat × Int × Nat) := [(1, 82, 900000, 424), (2, 19, 65536, 630), (6, 24, 900000, 176), (7, 90, 1000000, 373), (7, 125, -1000000002, 480), (7, 130, -1000000001, 489), (7, 184, -1000000003, 540), (7, 193, -1000000004, 549), (8, 86, 900000, 797), (8, 138, 1000000, 798), (8, 163, -1000000002, 842), (8, 164, -1000000001, 847), (8, 172, -1000000003, 884), (8, 176, -1000000004, 889), (8, 190, 65536, 945), (12, 265, 1431655765, 600), (12, 266, 858993459, 601), (12, 267, 252645135, 602)]
theorem CST_pl : ∀ x ∈ CST, lw_tbl[x.2.2.2]? = some (.constant (RN x.1) x.2.1 (Int32.ofInt x.2.2.1)) := by decide +kernel
def CSL : List (Nat × Nat × Int × Nat) := [(2, 13, 1103515245, 627), (2, 15, 12345, 628), (2, 17, 2147483647, 629), (8, 184, 1103515245, 942), (8, 186, 12345, 943), (8, 188, 2147483648, 944)]
theorem CSL_pl : ∀ x ∈ CSL, lw_tbl[x.2.2.2]? = some (.constantLong (RN x.1) x.2.1 (Int64.ofInt x.2.2.1)) := by decide +kernel
def OIL : List (Nat × Nat × Nat) := [(0, 3, 285), (1, 3, 211), (2, 1, 302), (3, 3, 218), (4, 3, 77), (5, 3, 265), (6, 3, 175), (7, 1, 69), (8, 1, 668)]
theorem OIL_pl : ∀ x ∈ OIL, lw_tbl[x.2.2]? = some (.methodLink (RN x.1) x.2.1 objectInit) := by decide +kernel
def ACL : List (Nat × Nat × Nat) := [(3, 41, 423), (4, 61, 463), (10, 150, 416)]
theorem ACL_pl : ∀ x ∈ ACL, lw_tbl[x.2.2]? = some (.methodLink (RN x.1) x.2.1 arraycopyName) := by decide +kernel
theorem obj_pl : lw_tbl[70]? = some (.instanceMethod objectInit) ∧ lw_tbl[71]? = some (.code objectInit ⟨#[0xb1]⟩ 1 none) := by decide +kernel
theorem acp_pl : lw_tbl[418]? = some (.native arraycopyName) ∧ lw_tbl[417]? = some (.static arraycopyName) ∧ lw_tbl[62]? = some (.initialized "java/lang/System") := by decide +kernel
theorem arr_pl : lw_tbl[169]? = some (.arrayClass .int) ∧ lw_tbl[339]? = some (.arrayClass .boolean) ∧ lw_tbl[213]? = some (.arrayOver (.object (RN 3))) ∧ lw_tbl[267]? = some (.arrayOver (.object (RN 4))) := by decide +kernel
