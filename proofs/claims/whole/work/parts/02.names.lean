/-! ===== names: classes, fields, methods (printed by wip/gen/tables.py) ===== -/
def zx_cn : List String := ["NamesThatShrink$Crowd", "NamesThatShrink$CrowdText", "NamesThatShrink$Keeps", "NamesThatShrink$Lineup", "NamesThatShrink$Listener", "NamesThatShrink$NewNames", "NamesThatShrink$Order", "NamesThatShrink$Picks", "NamesThatShrink$Row", "NamesThatShrink$Search", "NamesThatShrink$Text", "NamesThatShrink", "NamesThatShrinkModel"]
def zx_fl : List (List (String × String × String × Bool)) := [
  [("NamesThatShrink$Crowd", "name", "[I", true), ("NamesThatShrink$Crowd", "often", "[I", true), ("NamesThatShrink$Crowd", "price", "[I", true), ("NamesThatShrink$Crowd", "loggedWho", "[I", true), ("NamesThatShrink$Crowd", "loggedLetter", "[I", true), ("NamesThatShrink$Crowd", "logged", "I", false), ("NamesThatShrink$Crowd", "nextLogged", "I", false), ("NamesThatShrink$Crowd", "people", "I", false), ("NamesThatShrink$Crowd", "sides", "I", false), ("NamesThatShrink$Crowd", "boat", "I", false), ("NamesThatShrink$Crowd", "random", "I", false)],
  [("NamesThatShrink$CrowdText", "text", "LNamesThatShrink$Text;", true), ("NamesThatShrink$CrowdText", "code", "[I", true), ("NamesThatShrink$CrowdText", "price", "[I", true), ("NamesThatShrink$CrowdText", "lines", "I", false), ("NamesThatShrink$CrowdText", "room", "I", false)],
  [("NamesThatShrink$Keeps", "name", "[[I", true), ("NamesThatShrink$Keeps", "often", "[[I", true), ("NamesThatShrink$Keeps", "sides", "[I", true), ("NamesThatShrink$Keeps", "random", "[I", true), ("NamesThatShrink$Keeps", "isKept", "[Z", true)],
  [("NamesThatShrink$Lineup", "person", "[I", true), ("NamesThatShrink$Lineup", "code", "[I", true), ("NamesThatShrink$Lineup", "letters", "[I", true), ("NamesThatShrink$Lineup", "beginning", "[[I", true), ("NamesThatShrink$Lineup", "sharing", "[[J", true), ("NamesThatShrink$Lineup", "ways", "[[I", true), ("NamesThatShrink$Lineup", "groupFrom", "[I", true), ("NamesThatShrink$Lineup", "size", "I", false), ("NamesThatShrink$Lineup", "groups", "I", false), ("NamesThatShrink$Lineup", "longest", "I", false)],
  [("NamesThatShrink$Listener", "code", "[I", true), ("NamesThatShrink$Listener", "answered", "[Z", true), ("NamesThatShrink$Listener", "size", "I", false), ("NamesThatShrink$Listener", "wide", "I", false)],
  [("NamesThatShrink$NewNames", "crowd", "LNamesThatShrink$Crowd;", true), ("NamesThatShrink$NewNames", "barred", "[I", true), ("NamesThatShrink$NewNames", "nothing", "[I", true), ("NamesThatShrink$NewNames", "anywhere", "[LNamesThatShrink$Picks;", true), ("NamesThatShrink$NewNames", "here", "[LNamesThatShrink$Picks;", true), ("NamesThatShrink$NewNames", "price", "[I", false), ("NamesThatShrink$NewNames", "bars", "I", false), ("NamesThatShrink$NewNames", "length", "I", false), ("NamesThatShrink$NewNames", "apart", "I", false), ("NamesThatShrink$NewNames", "wanted", "I", false)],
  [("NamesThatShrink$Order", "text", "LNamesThatShrink$Text;", true), ("NamesThatShrink$Order", "crowd", "LNamesThatShrink$Crowd;", true), ("NamesThatShrink$Order", "kind", "[I", true), ("NamesThatShrink$Order", "what", "[I", true), ("NamesThatShrink$Order", "behind", "[I", true), ("NamesThatShrink$Order", "listed", "[I", true), ("NamesThatShrink$Order", "size", "I", false), ("NamesThatShrink$Order", "calls", "I", false), ("NamesThatShrink$Order", "answered", "I", false), ("NamesThatShrink$Order", "answers", "I", false), ("NamesThatShrink$Order", "begun", "I", false), ("NamesThatShrink$Order", "ended", "Z", false)],
  [("NamesThatShrink$Picks", "cost", "[I", true), ("NamesThatShrink$Picks", "code", "[I", true), ("NamesThatShrink$Picks", "size", "I", false), ("NamesThatShrink$Picks", "limit", "I", false)],
  [("NamesThatShrink$Row", "number", "[I", true), ("NamesThatShrink$Row", "size", "I", false)],
  [("NamesThatShrink$Search", "lineup", "LNamesThatShrink$Lineup;", true), ("NamesThatShrink$Search", "knownName", "[I", true), ("NamesThatShrink$Search", "groupAt", "[I", true), ("NamesThatShrink$Search", "way", "[[I", true), ("NamesThatShrink$Search", "taken", "[I", true), ("NamesThatShrink$Search", "state", "[J", false), ("NamesThatShrink$Search", "parent", "[I", false), ("NamesThatShrink$Search", "calls", "[B", false), ("NamesThatShrink$Search", "lost", "[B", false), ("NamesThatShrink$Search", "slots", "[I", false), ("NamesThatShrink$Search", "slotBits", "I", false), ("NamesThatShrink$Search", "slotMark", "I", false), ("NamesThatShrink$Search", "found", "I", false), ("NamesThatShrink$Search", "boat", "I", false), ("NamesThatShrink$Search", "total", "I", false), ("NamesThatShrink$Search", "unlike", "I", false), ("NamesThatShrink$Search", "nameless", "I", false), ("NamesThatShrink$Search", "allowed", "J", false), ("NamesThatShrink$Search", "odd", "J", false), ("NamesThatShrink$Search", "oddMatters", "J", false)],
  [("NamesThatShrink$Text", "signs", "[I", true), ("NamesThatShrink$Text", "length", "I", false), ("NamesThatShrink$Text", "limit", "I", false), ("NamesThatShrink$Text", "at", "I", false), ("NamesThatShrink$Text", "code", "I", false), ("NamesThatShrink$Text", "letters", "I", false)],
  [("NamesThatShrink", "text", "LNamesThatShrink$Text;", true), ("NamesThatShrink", "told", "LNamesThatShrink$Row;", true), ("NamesThatShrink", "crowd", "LNamesThatShrink$Crowd;", true), ("NamesThatShrink", "crowdText", "LNamesThatShrink$CrowdText;", true), ("NamesThatShrink", "plan", "LNamesThatShrink$Order;", true), ("NamesThatShrink", "search", "LNamesThatShrink$Search;", true), ("NamesThatShrink", "fresh", "LNamesThatShrink$NewNames;", true), ("NamesThatShrink", "listener", "LNamesThatShrink$Listener;", true), ("NamesThatShrink", "keeps", "LNamesThatShrink$Keeps;", true)],
  [("NamesThatShrinkModel", "thrown", "I", false), ("NamesThatShrinkModel", "rows", "I", false), ("NamesThatShrinkModel", "row", "[I", true), ("NamesThatShrinkModel", "people", "I", false), ("NamesThatShrinkModel", "name", "[I", true), ("NamesThatShrinkModel", "often", "[I", true), ("NamesThatShrinkModel", "side", "[I", true), ("NamesThatShrinkModel", "price", "[I", true), ("NamesThatShrinkModel", "boat", "I", false), ("NamesThatShrinkModel", "random", "I", false), ("NamesThatShrinkModel", "undos", "I", false), ("NamesThatShrinkModel", "undoName", "[I", true), ("NamesThatShrinkModel", "undoWho", "[I", true), ("NamesThatShrinkModel", "tape", "[I", true), ("NamesThatShrinkModel", "taped", "I", false), ("NamesThatShrinkModel", "at", "I", false), ("NamesThatShrinkModel", "to", "I", false), ("NamesThatShrinkModel", "nest", "I", false), ("NamesThatShrinkModel", "readName", "[I", true), ("NamesThatShrinkModel", "readPrice", "[I", true), ("NamesThatShrinkModel", "readMany", "I", false), ("NamesThatShrinkModel", "callsMade", "I", false), ("NamesThatShrinkModel", "callsAnswered", "I", false), ("NamesThatShrinkModel", "answersAll", "I", false), ("NamesThatShrinkModel", "untils", "I", false), ("NamesThatShrinkModel", "isEnded", "Z", false), ("NamesThatShrinkModel", "listed", "[I", true), ("NamesThatShrinkModel", "nodes", "[I", true), ("NamesThatShrinkModel", "found", "[J", true), ("NamesThatShrinkModel", "depth", "[I", true), ("NamesThatShrinkModel", "lost", "[I", true), ("NamesThatShrinkModel", "slots", "[I", true), ("NamesThatShrinkModel", "good", "[Z", true), ("NamesThatShrinkModel", "foundMany", "I", false), ("NamesThatShrinkModel", "bears", "I", false), ("NamesThatShrinkModel", "taken", "[I", true), ("NamesThatShrinkModel", "wideNow", "I", false), ("NamesThatShrinkModel", "heards", "I", false), ("NamesThatShrinkModel", "heardName", "[I", true), ("NamesThatShrinkModel", "heardIs", "[Z", true), ("NamesThatShrinkModel", "fits", "[I", true), ("NamesThatShrinkModel", "cameTo", "[I", true), ("NamesThatShrinkModel", "sorted", "[I", true), ("NamesThatShrinkModel", "merged", "[I", true), ("NamesThatShrinkModel", "fitMany", "I", false), ("NamesThatShrinkModel", "runBest", "I", false), ("NamesThatShrinkModel", "runMany", "I", false), ("NamesThatShrinkModel", "isKept", "[Z", true), ("NamesThatShrinkModel", "kept", "[I", true)]]
def zx_tl : List (List FieldType) := [
  [.array .int, .array .int, .array .int, .array .int, .array .int, .int, .int, .int, .int, .int, .int],
  [.object "NamesThatShrink$Text", .array .int, .array .int, .int, .int],
  [.array (.array .int), .array (.array .int), .array .int, .array .int, .array .boolean],
  [.array .int, .array .int, .array .int, .array (.array .int), .array (.array .long), .array (.array .int), .array .int, .int, .int, .int],
  [.array .int, .array .boolean, .int, .int],
  [.object "NamesThatShrink$Crowd", .array .int, .array .int, .array (.object "NamesThatShrink$Picks"), .array (.object "NamesThatShrink$Picks"), .array .int, .int, .int, .int, .int],
  [.object "NamesThatShrink$Text", .object "NamesThatShrink$Crowd", .array .int, .array .int, .array .int, .array .int, .int, .int, .int, .int, .int, .boolean],
  [.array .int, .array .int, .int, .int],
  [.array .int, .int],
  [.object "NamesThatShrink$Lineup", .array .int, .array .int, .array (.array .int), .array .int, .array .long, .array .int, .array .byte, .array .byte, .array .int, .int, .int, .int, .int, .int, .int, .int, .long, .long, .long],
  [.array .int, .int, .int, .int, .int, .int],
  [.object "NamesThatShrink$Text", .object "NamesThatShrink$Row", .object "NamesThatShrink$Crowd", .object "NamesThatShrink$CrowdText", .object "NamesThatShrink$Order", .object "NamesThatShrink$Search", .object "NamesThatShrink$NewNames", .object "NamesThatShrink$Listener", .object "NamesThatShrink$Keeps"],
  [.int, .int, .array .int, .int, .array .int, .array .int, .array .int, .array .int, .int, .int, .int, .array .int, .array .int, .array .int, .int, .int, .int, .int, .array .int, .array .int, .int, .int, .int, .int, .int, .boolean, .array .int, .array .int, .array .long, .array .int, .array .int, .array .int, .array .boolean, .int, .int, .array .int, .int, .int, .array .int, .array .boolean, .array .int, .array .int, .array .int, .array .int, .int, .int, .int, .array .boolean, .array .int]]
def zx_C (c : Nat) : String := zx_cn.getD c ""
def zx_T (c : Nat) : u_T := fun k => (zx_fl.getD c []).getD k ("", "", "", false)
def zx_N (c : Nat) : Nat := (zx_fl.getD c []).length
def zx_ty (c k : Nat) : FieldType := (zx_tl.getD c []).getD k .int
def zx_cl : List vw_C := [(zx_C 0, zx_T 0, zx_N 0), (zx_C 1, zx_T 1, zx_N 1), (zx_C 2, zx_T 2, zx_N 2), (zx_C 3, zx_T 3, zx_N 3), (zx_C 4, zx_T 4, zx_N 4), (zx_C 5, zx_T 5, zx_N 5), (zx_C 6, zx_T 6, zx_N 6), (zx_C 7, zx_T 7, zx_N 7), (zx_C 8, zx_T 8, zx_N 8), (zx_C 9, zx_T 9, zx_N 9), (zx_C 10, zx_T 10, zx_N 10), (zx_C 11, zx_T 11, zx_N 11), (zx_C 12, zx_T 12, zx_N 12)]
/-- the kinds of arrays: 20 int, 21 long, 22 byte, 23 boolean, 24 int[], 25 long[], 26 Picks -/
def zx_at (k : Nat) : FieldType := match k with
  | 20 => .int
  | 21 => .long
  | 22 => .byte
  | 23 => .boolean
  | 24 => .array .int
  | 25 => .array .long
  | _ => .object "NamesThatShrink$Picks"
abbrev zx_Mt : Type := MethodName × ByteArray × Nat × Option FieldType × Bool × Nat × Nat × Nat × Nat × Nat
def zx_ms0 : List zx_Mt := [
  (⟨"NamesThatShrink$Crowd", "<init>", "()V"⟩, prog_2_method_1_code, 1, none, false, 0, 178, 177, 0, 100),
  (⟨"NamesThatShrink$Crowd", "has", "(I)Z"⟩, prog_2_method_2_code, 2, (some .boolean), false, 1, 675, 673, 674, 100),
  (⟨"NamesThatShrink$Crowd", "join", "(I)V"⟩, prog_2_method_3_code, 2, none, false, 1, 617, 615, 616, 100),
  (⟨"NamesThatShrink$Crowd", "everybody", "()I"⟩, prog_2_method_4_code, 1, (some .int), false, 0, 810, 808, 809, 100),
  (⟨"NamesThatShrink$Crowd", "named", "()I"⟩, prog_2_method_5_code, 3, (some .int), false, 0, 637, 635, 636, 100),
  (⟨"NamesThatShrink$Crowd", "whoHas", "(I)I"⟩, prog_2_method_6_code, 4, (some .int), false, 1, 659, 657, 658, 100),
  (⟨"NamesThatShrink$Crowd", "beginners", "(I)I"⟩, prog_2_method_7_code, 4, (some .int), false, 1, 683, 681, 682, 100),
  (⟨"NamesThatShrink$Crowd", "answers", "()I"⟩, prog_2_method_8_code, 3, (some .int), false, 0, 1232, 1230, 1231, 100),
  (⟨"NamesThatShrink$Crowd", "priceOf", "(I)I"⟩, prog_2_method_9_code, 6, (some .int), false, 1, 792, 790, 791, 100),
  (⟨"NamesThatShrink$Crowd", "callOut", "(I)I"⟩, prog_2_method_10_code, 4, (some .int), false, 1, 655, 653, 654, 100),
  (⟨"NamesThatShrink$Crowd", "log", "(II)V"⟩, prog_2_method_11_code, 3, none, false, 2, 664, 663, 1, 100),
  (⟨"NamesThatShrink$Crowd", "forgetCalls", "()V"⟩, prog_2_method_12_code, 1, none, false, 0, 621, 619, 620, 100),
  (⟨"NamesThatShrink$Crowd", "takeBack", "()Z"⟩, prog_2_method_13_code, 4, (some .boolean), false, 0, 694, 692, 693, 100),
  (⟨"NamesThatShrink$Crowd", "draw", "(I)I"⟩, prog_2_method_14_code, 2, (some .int), false, 1, 805, 803, 804, 100),
  (⟨"NamesThatShrink$Crowd", "drawName", "()I"⟩, prog_2_method_15_code, 3, (some .int), false, 0, 800, 798, 799, 100),
  (⟨"NamesThatShrink$CrowdText", "<init>", "(LNamesThatShrink$Text;)V"⟩, prog_3_method_1_code, 2, none, false, 1, 240, 239, 0, 101),
  (⟨"NamesThatShrink$CrowdText", "read", "(I)I"⟩, prog_3_method_2_code, 3, (some .int), false, 1, 580, 578, 579, 101),
  (⟨"NamesThatShrink$CrowdText", "readLine", "()Z"⟩, prog_3_method_3_code, 2, (some .boolean), false, 0, 592, 591, 0, 101),
  (⟨"NamesThatShrink$CrowdText", "tell", "(LNamesThatShrink$Crowd;)V"⟩, prog_3_method_4_code, 3, none, false, 1, 613, 611, 612, 101),
  (⟨"NamesThatShrink$Keeps", "<init>", "()V"⟩, prog_4_method_1_code, 1, none, false, 0, 510, 509, 0, 108),
  (⟨"NamesThatShrink$Keeps", "store", "(ILNamesThatShrink$Crowd;)Z"⟩, prog_4_method_2_code, 3, (some .boolean), false, 2, 1214, 1212, 1213, 108),
  (⟨"NamesThatShrink$Keeps", "restore", "(ILNamesThatShrink$Crowd;)Z"⟩, prog_4_method_3_code, 3, (some .boolean), false, 2, 1223, 1221, 1222, 108),
  (⟨"NamesThatShrink$Lineup", "<init>", "()V"⟩, prog_5_method_1_code, 1, none, false, 0, 315, 314, 0, 104),
  (⟨"NamesThatShrink$Lineup", "take", "(LNamesThatShrink$Crowd;)V"⟩, prog_5_method_2_code, 3, none, false, 1, 862, 860, 861, 104),
  (⟨"NamesThatShrink$Lineup", "insert", "(II)V"⟩, prog_5_method_3_code, 5, none, false, 2, 866, 865, 17, 104),
  (⟨"NamesThatShrink$Lineup", "dictionaryKey", "(I)I"⟩, prog_5_method_4_code, 3, (some .int), true, 1, 869, 868, 0, 104),
  (⟨"NamesThatShrink$Lineup", "spell", "(I)V"⟩, prog_5_method_5_code, 4, none, false, 1, 874, 873, 18, 104),
  (⟨"NamesThatShrink$Lineup", "findSharing", "(I)V"⟩, prog_5_method_6_code, 6, none, false, 1, 882, 881, 19, 104),
  (⟨"NamesThatShrink$Lineup", "findGroups", "()V"⟩, prog_5_method_7_code, 3, none, false, 0, 886, 885, 20, 104),
  (⟨"NamesThatShrink$Lineup", "placeOf", "(I)I"⟩, prog_5_method_8_code, 3, (some .int), false, 1, 988, 986, 987, 104),
  (⟨"NamesThatShrink$Lineup", "groupOf", "(I)I"⟩, prog_5_method_9_code, 3, (some .int), false, 1, 1041, 1039, 1040, 104),
  (⟨"NamesThatShrink$Lineup", "statesWith", "(I)I"⟩, prog_5_method_10_code, 6, (some .int), false, 1, 890, 888, 889, 104),
  (⟨"NamesThatShrink$Lineup", "namesakes", "(I)I"⟩, prog_5_method_11_code, 4, (some .int), false, 1, 894, 893, 21, 104),
  (⟨"NamesThatShrink$Lineup", "sumFromAbove", "(I)V"⟩, prog_5_method_12_code, 3, none, false, 1, 898, 897, 22, 104),
  (⟨"NamesThatShrink$Lineup", "atMostOneAbove", "(I)I"⟩, prog_5_method_13_code, 1, (some .int), true, 1, 901, 900, 0, 104),
  (⟨"NamesThatShrink$Lineup", "placeAhead", "(I)I"⟩, prog_5_method_14_code, 3, (some .int), false, 1, 906, 905, 23, 104),
  (⟨"NamesThatShrink$Listener", "<init>", "()V"⟩, prog_6_method_1_code, 1, none, false, 0, 488, 487, 0, 107),
  (⟨"NamesThatShrink$Listener", "all", "()I"⟩, prog_6_method_2_code, 3, (some .int), false, 0, 1151, 1149, 1150, 107),
  (⟨"NamesThatShrink$Listener", "note", "(IZ)Z"⟩, prog_6_method_3_code, 3, (some .boolean), false, 2, 1159, 1157, 1158, 107),
  (⟨"NamesThatShrink$Listener", "fitting", "()I"⟩, prog_6_method_4_code, 4, (some .int), false, 0, 1163, 1161, 1162, 107)]
def zx_ms1 : List zx_Mt := [
  (⟨"NamesThatShrink$Listener", "first", "()I"⟩, prog_6_method_5_code, 4, (some .int), false, 0, 1184, 1182, 1183, 107),
  (⟨"NamesThatShrink$Listener", "left", "(I)I"⟩, prog_6_method_6_code, 5, (some .int), false, 1, 1175, 1173, 1174, 107),
  (⟨"NamesThatShrink$Listener", "firstAnswered", "()I"⟩, prog_6_method_7_code, 2, (some .int), false, 0, 1167, 1166, 44, 107),
  (⟨"NamesThatShrink$Listener", "firstHeard", "(I)I"⟩, prog_6_method_8_code, 3, (some .int), false, 1, 1180, 1179, 46, 107),
  (⟨"NamesThatShrink$Listener", "isWithin", "(I)Z"⟩, prog_6_method_9_code, 4, (some .boolean), false, 1, 1171, 1170, 45, 107),
  (⟨"NamesThatShrink$Listener", "following", "(I)I"⟩, prog_6_method_10_code, 6, (some .int), false, 1, 1188, 1187, 47, 107),
  (⟨"NamesThatShrink$NewNames", "<init>", "(LNamesThatShrink$Crowd;)V"⟩, prog_7_method_1_code, 3, none, false, 1, 429, 428, 0, 105),
  (⟨"NamesThatShrink$NewNames", "areAsked", "(II)Z"⟩, prog_7_method_2_code, 2, (some .boolean), true, 2, 1062, 1061, 0, 105),
  (⟨"NamesThatShrink$NewNames", "ask", "(II)V"⟩, prog_7_method_3_code, 6, none, false, 2, 1066, 1064, 1065, 105),
  (⟨"NamesThatShrink$NewNames", "firstLetters", "(II)I"⟩, prog_7_method_4_code, 4, (some .int), true, 2, 1071, 1070, 0, 105),
  (⟨"NamesThatShrink$NewNames", "tellCheapest", "(ILNamesThatShrink$Row;)I"⟩, prog_7_method_5_code, 3, (some .int), false, 2, 1075, 1073, 1074, 105),
  (⟨"NamesThatShrink$NewNames", "tellSafe", "(LNamesThatShrink$Row;)I"⟩, prog_7_method_6_code, 3, (some .int), false, 1, 1135, 1133, 1134, 105),
  (⟨"NamesThatShrink$NewNames", "choose", "(I[I)V"⟩, prog_7_method_7_code, 5, none, false, 2, 1079, 1078, 37, 105),
  (⟨"NamesThatShrink$NewNames", "limitAt", "(I)I"⟩, prog_7_method_8_code, 2, (some .int), false, 1, 1092, 1091, 38, 105),
  (⟨"NamesThatShrink$NewNames", "addLetter", "(LNamesThatShrink$Picks;LNamesThatShrink$Picks;II)V"⟩, prog_7_method_9_code, 5, none, false, 4, 1096, 1095, 39, 105),
  (⟨"NamesThatShrink$NewNames", "pick", "(II)V"⟩, prog_7_method_10_code, 5, none, false, 2, 1107, 1106, 40, 105),
  (⟨"NamesThatShrink$NewNames", "countSafe", "(II)I"⟩, prog_7_method_11_code, 5, (some .int), false, 2, 1139, 1138, 43, 105),
  (⟨"NamesThatShrink$NewNames", "isBarred", "(I)Z"⟩, prog_7_method_12_code, 3, (some .boolean), false, 1, 1111, 1110, 41, 105),
  (⟨"NamesThatShrink$NewNames", "leadsToBarred", "(I)Z"⟩, prog_7_method_13_code, 3, (some .boolean), false, 1, 1115, 1114, 42, 105),
  (⟨"NamesThatShrink$Order", "<init>", "(LNamesThatShrink$Text;LNamesThatShrink$Crowd;)V"⟩, prog_8_method_1_code, 3, none, false, 2, 262, 261, 0, 102),
  (⟨"NamesThatShrink$Order", "read", "()I"⟩, prog_8_method_2_code, 2, (some .int), false, 0, 702, 700, 701, 102),
  (⟨"NamesThatShrink$Order", "readSteps", "(I)Z"⟩, prog_8_method_3_code, 3, (some .boolean), false, 1, 708, 707, 2, 102),
  (⟨"NamesThatShrink$Order", "readStep", "(I)Z"⟩, prog_8_method_4_code, 3, (some .boolean), false, 1, 712, 711, 3, 102),
  (⟨"NamesThatShrink$Order", "readBlock", "(III)Z"⟩, prog_8_method_5_code, 5, (some .boolean), false, 3, 717, 716, 4, 102),
  (⟨"NamesThatShrink$Order", "put", "(II)Z"⟩, prog_8_method_6_code, 3, (some .boolean), false, 2, 722, 721, 5, 102),
  (⟨"NamesThatShrink$Order", "carryOut", "()V"⟩, prog_8_method_7_code, 1, none, false, 0, 728, 726, 727, 102),
  (⟨"NamesThatShrink$Order", "doSteps", "(III)V"⟩, prog_8_method_8_code, 7, none, false, 3, 732, 731, 6, 102),
  (⟨"NamesThatShrink$Order", "doStep", "(II)V"⟩, prog_8_method_9_code, 3, none, false, 2, 737, 736, 7, 102),
  (⟨"NamesThatShrink$Order", "callOne", "(I)V"⟩, prog_8_method_10_code, 3, none, false, 1, 741, 740, 8, 102),
  (⟨"NamesThatShrink$Order", "callAll", "(I)V"⟩, prog_8_method_11_code, 4, none, false, 1, 747, 746, 9, 102),
  (⟨"NamesThatShrink$Order", "list", "(I)I"⟩, prog_8_method_12_code, 5, (some .int), false, 1, 751, 750, 10, 102),
  (⟨"NamesThatShrink$Order", "insert", "(II)I"⟩, prog_8_method_13_code, 5, (some .int), false, 2, 756, 755, 11, 102),
  (⟨"NamesThatShrink$Order", "repeat", "(II)V"⟩, prog_8_method_14_code, 5, none, false, 2, 760, 759, 12, 102),
  (⟨"NamesThatShrink$Order", "until", "(II)V"⟩, prog_8_method_15_code, 4, none, false, 2, 764, 763, 13, 102),
  (⟨"NamesThatShrink$Picks", "<init>", "()V"⟩, prog_9_method_1_code, 1, none, false, 0, 436, 435, 0, 106),
  (⟨"NamesThatShrink$Picks", "start", "(I)V"⟩, prog_9_method_2_code, 2, none, false, 1, 1083, 1081, 1082, 106),
  (⟨"NamesThatShrink$Picks", "add", "(II)V"⟩, prog_9_method_3_code, 5, none, false, 2, 1088, 1086, 1087, 106),
  (⟨"NamesThatShrink$Picks", "addAll", "(LNamesThatShrink$Picks;II)V"⟩, prog_9_method_4_code, 5, none, false, 3, 1102, 1100, 1101, 106),
  (⟨"NamesThatShrink$Picks", "costOfAll", "()I"⟩, prog_9_method_5_code, 3, (some .int), false, 0, 1127, 1125, 1126, 106),
  (⟨"NamesThatShrink$Picks", "tellRising", "(LNamesThatShrink$Row;)V"⟩, prog_9_method_6_code, 6, none, false, 1, 1120, 1118, 1119, 106)]
def zx_ms2 : List zx_Mt := [
  (⟨"NamesThatShrink$Row", "<init>", "()V"⟩, prog_10_method_1_code, 1, none, false, 0, 163, 162, 0, 99),
  (⟨"NamesThatShrink$Row", "clear", "()V"⟩, prog_10_method_2_code, 1, none, false, 0, 769, 767, 768, 99),
  (⟨"NamesThatShrink$Row", "add", "(I)V"⟩, prog_10_method_3_code, 2, none, false, 1, 773, 771, 772, 99),
  (⟨"NamesThatShrink$Search", "<init>", "()V"⟩, prog_11_method_1_code, 1, none, false, 0, 309, 308, 0, 103),
  (⟨"NamesThatShrink$Search", "freeStates", "(LNamesThatShrink$Crowd;)I"⟩, prog_11_method_2_code, 2, (some .int), false, 1, 847, 845, 846, 103),
  (⟨"NamesThatShrink$Search", "look", "(LNamesThatShrink$Crowd;)I"⟩, prog_11_method_3_code, 3, (some .int), false, 1, 921, 919, 920, 103),
  (⟨"NamesThatShrink$Search", "lineUp", "(LNamesThatShrink$Crowd;)V"⟩, prog_11_method_4_code, 2, none, false, 1, 851, 850, 15, 103),
  (⟨"NamesThatShrink$Search", "isKnown", "(LNamesThatShrink$Crowd;)Z"⟩, prog_11_method_5_code, 3, (some .boolean), false, 1, 855, 854, 16, 103),
  (⟨"NamesThatShrink$Search", "spreadAll", "(I)I"⟩, prog_11_method_6_code, 6, (some .int), false, 1, 925, 924, 25, 103),
  (⟨"NamesThatShrink$Search", "makeRoom", "(I)V"⟩, prog_11_method_7_code, 3, none, false, 1, 929, 928, 26, 103),
  (⟨"NamesThatShrink$Search", "spread", "(I)V"⟩, prog_11_method_8_code, 4, none, false, 1, 935, 934, 27, 103),
  (⟨"NamesThatShrink$Search", "startOf", "(I)J"⟩, prog_11_method_9_code, 6, (some .long), false, 1, 939, 938, 28, 103),
  (⟨"NamesThatShrink$Search", "groupMark", "(I)J"⟩, prog_11_method_10_code, 1, (some .long), true, 1, 942, 941, 0, 103),
  (⟨"NamesThatShrink$Search", "expand", "(I)V"⟩, prog_11_method_11_code, 13, none, false, 1, 959, 958, 32, 103),
  (⟨"NamesThatShrink$Search", "placesWith", "(JI)J"⟩, prog_11_method_12_code, 5, (some .long), true, 2, 962, 961, 0, 103),
  (⟨"NamesThatShrink$Search", "add", "(JII)V"⟩, prog_11_method_13_code, 7, none, false, 3, 946, 945, 29, 103),
  (⟨"NamesThatShrink$Search", "isTaken", "(I)Z"⟩, prog_11_method_14_code, 2, (some .boolean), false, 1, 955, 954, 31, 103),
  (⟨"NamesThatShrink$Search", "slotOf", "(J)I"⟩, prog_11_method_15_code, 6, (some .int), false, 1, 950, 949, 30, 103),
  (⟨"NamesThatShrink$Search", "wantDues", "(LNamesThatShrink$Crowd;J)Z"⟩, prog_11_method_16_code, 7, (some .boolean), false, 2, 980, 978, 979, 103),
  (⟨"NamesThatShrink$Search", "wantSides", "(LNamesThatShrink$Crowd;)Z"⟩, prog_11_method_17_code, 6, (some .boolean), false, 1, 1029, 1027, 1028, 103),
  (⟨"NamesThatShrink$Search", "isWanted", "(JJ)Z"⟩, prog_11_method_18_code, 8, (some .boolean), false, 2, 1000, 999, 34, 103),
  (⟨"NamesThatShrink$Search", "bestOf", "(IZ)I"⟩, prog_11_method_19_code, 7, (some .int), false, 2, 996, 995, 33, 103),
  (⟨"NamesThatShrink$Search", "tellCalls", "(LNamesThatShrink$Row;)I"⟩, prog_11_method_20_code, 5, (some .int), false, 1, 992, 990, 991, 103),
  (⟨"NamesThatShrink$Search", "trace", "(II)V"⟩, prog_11_method_21_code, 9, none, false, 2, 1004, 1003, 35, 103),
  (⟨"NamesThatShrink$Search", "nextCall", "()I"⟩, prog_11_method_22_code, 5, (some .int), false, 0, 1012, 1011, 36, 103),
  (⟨"NamesThatShrink$Search", "tellLosses", "(LNamesThatShrink$Row;)I"⟩, prog_11_method_23_code, 6, (some .int), false, 1, 1021, 1019, 1020, 103),
  (⟨"NamesThatShrink$Search", "tellAlone", "(IILNamesThatShrink$Row;)I"⟩, prog_11_method_24_code, 10, (some .int), false, 3, 1037, 1035, 1036, 103),
  (⟨"NamesThatShrink$Search", "callsTo", "(J)I"⟩, prog_11_method_25_code, 8, (some .int), false, 1, 1055, 1053, 1054, 103),
  (⟨"NamesThatShrink$Text", "<init>", "()V"⟩, prog_12_method_1_code, 1, none, false, 0, 132, 131, 0, 98),
  (⟨"NamesThatShrink$Text", "append", "(I)Z"⟩, prog_12_method_2_code, 3, (some .boolean), false, 1, 564, 562, 563, 98),
  (⟨"NamesThatShrink$Text", "cut", "(I)Z"⟩, prog_12_method_3_code, 2, (some .boolean), false, 1, 572, 570, 571, 98),
  (⟨"NamesThatShrink$Text", "startReading", "(I)V"⟩, prog_12_method_4_code, 2, none, false, 1, 584, 582, 583, 98),
  (⟨"NamesThatShrink$Text", "look", "()I"⟩, prog_12_method_5_code, 1, (some .int), false, 0, 588, 586, 587, 98),
  (⟨"NamesThatShrink$Text", "fault", "()I"⟩, prog_12_method_6_code, 1, (some .int), false, 0, 609, 607, 608, 98),
  (⟨"NamesThatShrink$Text", "take", "(I)Z"⟩, prog_12_method_7_code, 2, (some .boolean), false, 1, 601, 599, 600, 98),
  (⟨"NamesThatShrink$Text", "takeDigit", "()I"⟩, prog_12_method_8_code, 2, (some .int), false, 0, 605, 603, 604, 98),
  (⟨"NamesThatShrink$Text", "takeName", "()V"⟩, prog_12_method_9_code, 3, none, false, 0, 596, 594, 595, 98),
  (⟨"NamesThatShrink", "<init>", "()V"⟩, prog_1_method_1_code, 1, none, false, 0, 124, 123, 0, 97),
  (⟨"NamesThatShrink", "sign", "(I)I"⟩, prog_1_method_2_code, 2, (some .int), false, 1, 560, 558, 559, 97),
  (⟨"NamesThatShrink", "end", "(I)Z"⟩, prog_1_method_3_code, 2, (some .boolean), false, 1, 568, 566, 567, 97)]
def zx_ms3 : List zx_Mt := [
  (⟨"NamesThatShrink", "crowd", "()I"⟩, prog_1_method_4_code, 2, (some .int), false, 0, 576, 574, 575, 97),
  (⟨"NamesThatShrink", "sheet", "(IIII)I"⟩, prog_1_method_5_code, 7, (some .int), false, 4, 625, 623, 624, 97),
  (⟨"NamesThatShrink", "of", "(II)I"⟩, prog_1_method_6_code, 3, (some .int), false, 2, 1240, 1238, 1239, 97),
  (⟨"NamesThatShrink", "set", "(III)I"⟩, prog_1_method_7_code, 5, (some .int), false, 3, 647, 645, 646, 97),
  (⟨"NamesThatShrink", "call", "(I)I"⟩, prog_1_method_8_code, 2, (some .int), false, 1, 651, 649, 650, 97),
  (⟨"NamesThatShrink", "hey", "(I)I"⟩, prog_1_method_9_code, 3, (some .int), false, 1, 671, 669, 670, 97),
  (⟨"NamesThatShrink", "begin", "(I)I"⟩, prog_1_method_10_code, 2, (some .int), false, 1, 679, 677, 678, 97),
  (⟨"NamesThatShrink", "undo", "()I"⟩, prog_1_method_11_code, 1, (some .int), false, 0, 690, 688, 689, 97),
  (⟨"NamesThatShrink", "order", "()I"⟩, prog_1_method_12_code, 2, (some .int), false, 0, 698, 696, 697, 97),
  (⟨"NamesThatShrink", "pass", "(II)I"⟩, prog_1_method_13_code, 5, (some .int), false, 2, 777, 775, 776, 97),
  (⟨"NamesThatShrink", "rename", "(II)I"⟩, prog_1_method_14_code, 3, (some .int), false, 2, 788, 786, 787, 97),
  (⟨"NamesThatShrink", "season", "(I)I"⟩, prog_1_method_15_code, 5, (some .int), false, 1, 796, 794, 795, 97),
  (⟨"NamesThatShrink", "common", "(II)I"⟩, prog_1_method_16_code, 3, (some .int), false, 2, 814, 812, 813, 97),
  (⟨"NamesThatShrink", "meet", "(II)I"⟩, prog_1_method_17_code, 5, (some .int), false, 2, 821, 819, 820, 97),
  (⟨"NamesThatShrink", "pairs", "(I)I"⟩, prog_1_method_18_code, 5, (some .int), false, 1, 825, 823, 824, 97),
  (⟨"NamesThatShrink", "tree", "()I"⟩, prog_1_method_19_code, 9, (some .int), false, 0, 832, 830, 831, 97),
  (⟨"NamesThatShrink", "most", "()I"⟩, prog_1_method_20_code, 4, (some .int), false, 0, 843, 841, 842, 97),
  (⟨"NamesThatShrink", "fewest", "(J)I"⟩, prog_1_method_21_code, 3, (some .int), false, 1, 913, 911, 912, 97),
  (⟨"NamesThatShrink", "losses", "(J)I"⟩, prog_1_method_22_code, 3, (some .int), false, 1, 1017, 1015, 1016, 97),
  (⟨"NamesThatShrink", "river", "()I"⟩, prog_1_method_23_code, 1, (some .int), false, 0, 1025, 1023, 1024, 97),
  (⟨"NamesThatShrink", "alone", "(II)I"⟩, prog_1_method_24_code, 3, (some .int), false, 2, 1033, 1031, 1032, 97),
  (⟨"NamesThatShrink", "states", "()I"⟩, prog_1_method_25_code, 2, (some .int), false, 0, 1046, 1044, 1045, 97),
  (⟨"NamesThatShrink", "comes", "(J)I"⟩, prog_1_method_26_code, 4, (some .int), false, 1, 1050, 1048, 1049, 97),
  (⟨"NamesThatShrink", "names", "(III)I"⟩, prog_1_method_27_code, 4, (some .int), false, 3, 1059, 1057, 1058, 97),
  (⟨"NamesThatShrink", "safe", "(II)I"⟩, prog_1_method_28_code, 3, (some .int), false, 2, 1131, 1129, 1130, 97),
  (⟨"NamesThatShrink", "listen", "(I)I"⟩, prog_1_method_29_code, 2, (some .int), false, 1, 1147, 1145, 1146, 97),
  (⟨"NamesThatShrink", "hears", "(IZ)I"⟩, prog_1_method_30_code, 4, (some .int), false, 2, 1155, 1153, 1154, 97),
  (⟨"NamesThatShrink", "knows", "()I"⟩, prog_1_method_31_code, 2, (some .int), false, 0, 1192, 1190, 1191, 97),
  (⟨"NamesThatShrink", "asks", "()I"⟩, prog_1_method_32_code, 2, (some .int), false, 0, 1197, 1195, 1196, 97),
  (⟨"NamesThatShrink", "forget", "()I"⟩, prog_1_method_33_code, 1, (some .int), false, 0, 1202, 1200, 1201, 97),
  (⟨"NamesThatShrink", "seed", "(I)I"⟩, prog_1_method_34_code, 3, (some .int), false, 1, 1206, 1204, 1205, 97),
  (⟨"NamesThatShrink", "keep", "(I)Z"⟩, prog_1_method_35_code, 2, (some .boolean), false, 1, 1210, 1208, 1209, 97),
  (⟨"NamesThatShrink", "again", "(I)Z"⟩, prog_1_method_36_code, 2, (some .boolean), false, 1, 1219, 1217, 1218, 97),
  (⟨"NamesThatShrink", "count", "(I)I"⟩, prog_1_method_37_code, 2, (some .int), false, 1, 1228, 1226, 1227, 97),
  (⟨"NamesThatShrink", "row", "(I)I"⟩, prog_1_method_38_code, 2, (some .int), false, 1, 1308, 1306, 1307, 97),
  (⟨"NamesThatShrink", "areTwo", "(II)Z"⟩, prog_1_method_39_code, 3, (some .boolean), false, 2, 781, 780, 14, 97),
  (⟨"NamesThatShrink", "tellsOfNobody", "(J)Z"⟩, prog_1_method_40_code, 3, (some .boolean), false, 1, 917, 916, 24, 97),
  (⟨"NamesThatShrink", "fourBits", "(JI)I"⟩, prog_1_method_41_code, 3, (some .int), true, 2, 984, 983, 0, 97),
  (⟨"NamesThatShrink", "asKind", "(II)I"⟩, prog_1_method_42_code, 2, (some .int), true, 2, 628, 627, 0, 97),
  (⟨"NamesThatShrink", "isBeforeInTree", "(II)Z"⟩, prog_1_method_43_code, 3, (some .boolean), true, 2, 839, 838, 0, 97)]
def zx_ms4 : List zx_Mt := [
  (⟨"NamesThatShrink", "isCode", "(I)Z"⟩, prog_1_method_44_code, 3, (some .boolean), true, 1, 631, 630, 0, 97),
  (⟨"NamesThatShrink", "lettersOf", "(I)I"⟩, prog_1_method_45_code, 4, (some .int), true, 1, 784, 783, 0, 97),
  (⟨"NamesThatShrink", "startsWith", "(II)Z"⟩, prog_1_method_46_code, 4, (some .boolean), true, 2, 686, 685, 0, 97),
  (⟨"NamesThatShrink", "shared", "(II)I"⟩, prog_1_method_47_code, 5, (some .int), true, 2, 817, 816, 0, 97),
  (⟨"NamesThatShrink", "canMeet", "(III)Z"⟩, prog_1_method_48_code, 4, (some .boolean), true, 3, 828, 827, 0, 97),
  (⟨"NamesThatShrinkModel", "thrown", "()I"⟩, prog_14_method_1_code, 1, (some .int), false, 0, 1312, 1310, 1311, 109),
  (⟨"NamesThatShrinkModel", "refuse", "()I"⟩, prog_14_method_2_code, 1, (some .int), false, 0, 1387, 1386, 57, 109),
  (⟨"NamesThatShrinkModel", "in", "(JJJ)Z"⟩, prog_14_method_3_code, 6, (some .boolean), true, 3, 1323, 1322, 0, 109),
  (⟨"NamesThatShrinkModel", "has", "(II)Z"⟩, prog_14_method_4_code, 2, (some .boolean), true, 2, 1417, 1416, 0, 109),
  (⟨"NamesThatShrinkModel", "flag", "(Z)I"⟩, prog_14_method_5_code, 1, (some .int), true, 1, 1354, 1353, 0, 109),
  (⟨"NamesThatShrinkModel", "enters", "(I)V"⟩, prog_14_method_6_code, 2, none, false, 1, 1476, 1475, 69, 109),
  (⟨"NamesThatShrinkModel", "lengthOf", "(I)I"⟩, prog_14_method_7_code, 3, (some .int), true, 1, 1375, 1374, 0, 109),
  (⟨"NamesThatShrinkModel", "isCode", "(I)Z"⟩, prog_14_method_8_code, 3, (some .boolean), true, 1, 1372, 1371, 0, 109),
  (⟨"NamesThatShrinkModel", "firstOf", "(II)I"⟩, prog_14_method_9_code, 4, (some .int), true, 2, 1431, 1430, 0, 109),
  (⟨"NamesThatShrinkModel", "alike", "(II)I"⟩, prog_14_method_10_code, 3, (some .int), true, 2, 1514, 1513, 0, 109),
  (⟨"NamesThatShrinkModel", "isPerson", "(I)Z"⟩, prog_14_method_11_code, 2, (some .boolean), false, 1, 1383, 1382, 56, 109),
  (⟨"NamesThatShrinkModel", "sign", "(I)I"⟩, prog_14_method_12_code, 3, (some .int), false, 1, 1316, 1314, 1315, 109),
  (⟨"NamesThatShrinkModel", "end", "(I)Z"⟩, prog_14_method_13_code, 2, (some .boolean), false, 1, 1320, 1318, 1319, 109),
  (⟨"NamesThatShrinkModel", "begins", "(I)I"⟩, prog_14_method_14_code, 3, (some .int), false, 1, 1332, 1330, 49, 109),
  (⟨"NamesThatShrinkModel", "takes", "(I)Z"⟩, prog_14_method_15_code, 3, (some .boolean), false, 1, 1351, 1350, 53, 109),
  (⟨"NamesThatShrinkModel", "isLetter", "()Z"⟩, prog_14_method_16_code, 1, (some .boolean), false, 0, 1345, 1344, 52, 109),
  (⟨"NamesThatShrinkModel", "letters", "()I"⟩, prog_14_method_17_code, 3, (some .int), false, 0, 1341, 1340, 51, 109),
  (⟨"NamesThatShrinkModel", "isDigit", "()Z"⟩, prog_14_method_18_code, 1, (some .boolean), false, 0, 1358, 1357, 54, 109),
  (⟨"NamesThatShrinkModel", "faultOf", "(IIZ)I"⟩, prog_14_method_19_code, 5, (some .int), false, 3, 1364, 1363, 55, 109),
  (⟨"NamesThatShrinkModel", "readsLine", "()Z"⟩, prog_14_method_20_code, 3, (some .boolean), false, 0, 1337, 1336, 50, 109),
  (⟨"NamesThatShrinkModel", "crowd", "()I"⟩, prog_14_method_21_code, 7, (some .int), false, 0, 1327, 1325, 1326, 109),
  (⟨"NamesThatShrinkModel", "sheet", "(IIII)I"⟩, prog_14_method_22_code, 9, (some .int), false, 4, 1368, 1366, 1367, 109),
  (⟨"NamesThatShrinkModel", "of", "(II)I"⟩, prog_14_method_23_code, 3, (some .int), false, 2, 1379, 1377, 1378, 109),
  (⟨"NamesThatShrinkModel", "set", "(III)I"⟩, prog_14_method_24_code, 5, (some .int), false, 3, 1391, 1389, 1390, 109),
  (⟨"NamesThatShrinkModel", "whoHave", "(I)I"⟩, prog_14_method_25_code, 4, (some .int), false, 1, 1409, 1408, 59, 109),
  (⟨"NamesThatShrinkModel", "turns", "(II)V"⟩, prog_14_method_26_code, 4, none, false, 2, 1414, 1413, 60, 109),
  (⟨"NamesThatShrinkModel", "calls", "(I)I"⟩, prog_14_method_27_code, 4, (some .int), false, 1, 1405, 1404, 58, 109),
  (⟨"NamesThatShrinkModel", "isName", "(I)Z"⟩, prog_14_method_28_code, 1, (some .boolean), true, 1, 1401, 1400, 0, 109),
  (⟨"NamesThatShrinkModel", "call", "(I)I"⟩, prog_14_method_29_code, 2, (some .int), false, 1, 1398, 1396, 1397, 109),
  (⟨"NamesThatShrinkModel", "hey", "(I)I"⟩, prog_14_method_30_code, 2, (some .int), false, 1, 1421, 1419, 1420, 109),
  (⟨"NamesThatShrinkModel", "beginsWith", "(II)Z"⟩, prog_14_method_31_code, 2, (some .boolean), true, 2, 1428, 1427, 0, 109),
  (⟨"NamesThatShrinkModel", "begin", "(I)I"⟩, prog_14_method_32_code, 4, (some .int), false, 1, 1425, 1423, 1424, 109),
  (⟨"NamesThatShrinkModel", "undo", "()I"⟩, prog_14_method_33_code, 2, (some .int), false, 0, 1435, 1433, 1434, 109),
  (⟨"NamesThatShrinkModel", "group", "()Z"⟩, prog_14_method_34_code, 1, (some .boolean), false, 0, 1451, 1450, 63, 109),
  (⟨"NamesThatShrinkModel", "step", "()Z"⟩, prog_14_method_35_code, 1, (some .boolean), false, 0, 1447, 1446, 62, 109)]
def zx_ms5 : List zx_Mt := [
  (⟨"NamesThatShrinkModel", "steps", "()Z"⟩, prog_14_method_36_code, 2, (some .boolean), false, 0, 1443, 1442, 61, 109),
  (⟨"NamesThatShrinkModel", "made", "(I)V"⟩, prog_14_method_37_code, 3, none, false, 1, 1472, 1471, 68, 109),
  (⟨"NamesThatShrinkModel", "madeAll", "(I)V"⟩, prog_14_method_38_code, 8, none, false, 1, 1467, 1466, 67, 109),
  (⟨"NamesThatShrinkModel", "passes", "()V"⟩, prog_14_method_39_code, 3, none, false, 0, 1463, 1462, 66, 109),
  (⟨"NamesThatShrinkModel", "does", "()V"⟩, prog_14_method_40_code, 4, none, false, 0, 1459, 1458, 65, 109),
  (⟨"NamesThatShrinkModel", "doesAll", "()V"⟩, prog_14_method_41_code, 1, none, false, 0, 1455, 1454, 64, 109),
  (⟨"NamesThatShrinkModel", "order", "()I"⟩, prog_14_method_42_code, 4, (some .int), false, 0, 1439, 1437, 1438, 109),
  (⟨"NamesThatShrinkModel", "pass", "(II)I"⟩, prog_14_method_43_code, 3, (some .int), false, 2, 1480, 1478, 1479, 109),
  (⟨"NamesThatShrinkModel", "priceOf", "(I)I"⟩, prog_14_method_44_code, 4, (some .int), false, 1, 1488, 1487, 70, 109),
  (⟨"NamesThatShrinkModel", "rename", "(II)I"⟩, prog_14_method_45_code, 3, (some .int), false, 2, 1484, 1482, 1483, 109),
  (⟨"NamesThatShrinkModel", "draws", "(I)I"⟩, prog_14_method_46_code, 2, (some .int), false, 1, 1501, 1500, 72, 109),
  (⟨"NamesThatShrinkModel", "named", "()I"⟩, prog_14_method_47_code, 1, (some .int), false, 0, 1497, 1496, 71, 109),
  (⟨"NamesThatShrinkModel", "season", "(I)I"⟩, prog_14_method_48_code, 6, (some .int), false, 1, 1492, 1490, 1491, 109),
  (⟨"NamesThatShrinkModel", "areTwo", "(II)Z"⟩, prog_14_method_49_code, 3, (some .boolean), false, 2, 1511, 1510, 73, 109),
  (⟨"NamesThatShrinkModel", "common", "(II)I"⟩, prog_14_method_50_code, 3, (some .int), false, 2, 1507, 1505, 1506, 109),
  (⟨"NamesThatShrinkModel", "meet", "(II)I"⟩, prog_14_method_51_code, 4, (some .int), false, 2, 1518, 1516, 1517, 109),
  (⟨"NamesThatShrinkModel", "canMeet", "(III)Z"⟩, prog_14_method_52_code, 4, (some .boolean), true, 3, 1526, 1525, 0, 109),
  (⟨"NamesThatShrinkModel", "pairs", "(I)I"⟩, prog_14_method_53_code, 5, (some .int), false, 1, 1522, 1520, 1521, 109),
  (⟨"NamesThatShrinkModel", "tree", "()I"⟩, prog_14_method_54_code, 11, (some .int), false, 0, 1530, 1528, 1529, 109),
  (⟨"NamesThatShrinkModel", "leftOf", "(JI)I"⟩, prog_14_method_55_code, 3, (some .int), true, 2, 1559, 1558, 0, 109),
  (⟨"NamesThatShrinkModel", "nameIn", "(JI)I"⟩, prog_14_method_56_code, 4, (some .int), false, 2, 1556, 1555, 78, 109),
  (⟨"NamesThatShrinkModel", "slotOf", "(J)I"⟩, prog_14_method_57_code, 4, (some .int), false, 1, 1547, 1546, 76, 109),
  (⟨"NamesThatShrinkModel", "answerTo", "(JI)I"⟩, prog_14_method_58_code, 7, (some .int), false, 2, 1552, 1551, 77, 109),
  (⟨"NamesThatShrinkModel", "behind", "(JI)J"⟩, prog_14_method_59_code, 7, (some .long), false, 2, 1567, 1566, 80, 109),
  (⟨"NamesThatShrinkModel", "canCall", "(JII)Z"⟩, prog_14_method_60_code, 5, (some .boolean), false, 3, 1563, 1562, 79, 109),
  (⟨"NamesThatShrinkModel", "stateNow", "()J"⟩, prog_14_method_61_code, 4, (some .long), false, 0, 1543, 1542, 75, 109),
  (⟨"NamesThatShrinkModel", "explores", "(I)Z"⟩, prog_14_method_62_code, 8, (some .boolean), false, 1, 1538, 1537, 74, 109),
  (⟨"NamesThatShrinkModel", "bestGood", "()I"⟩, prog_14_method_63_code, 4, (some .int), false, 0, 1590, 1589, 84, 109),
  (⟨"NamesThatShrinkModel", "tellsWay", "(I)I"⟩, prog_14_method_64_code, 9, (some .int), false, 1, 1594, 1593, 85, 109),
  (⟨"NamesThatShrinkModel", "isNextGood", "(II)Z"⟩, prog_14_method_65_code, 4, (some .boolean), false, 2, 1598, 1597, 86, 109),
  (⟨"NamesThatShrinkModel", "most", "()I"⟩, prog_14_method_66_code, 4, (some .int), false, 0, 1534, 1532, 1533, 109),
  (⟨"NamesThatShrinkModel", "dueOf", "(JI)I"⟩, prog_14_method_67_code, 3, (some .int), true, 2, 1586, 1585, 0, 109),
  (⟨"NamesThatShrinkModel", "areDues", "(J)Z"⟩, prog_14_method_68_code, 3, (some .boolean), false, 1, 1575, 1574, 81, 109),
  (⟨"NamesThatShrinkModel", "lostBy", "(II)I"⟩, prog_14_method_69_code, 3, (some .int), false, 2, 1583, 1582, 83, 109),
  (⟨"NamesThatShrinkModel", "marksDues", "(J)V"⟩, prog_14_method_70_code, 5, none, false, 1, 1579, 1578, 82, 109),
  (⟨"NamesThatShrinkModel", "fewest", "(J)I"⟩, prog_14_method_71_code, 4, (some .int), false, 1, 1571, 1569, 1570, 109),
  (⟨"NamesThatShrinkModel", "losses", "(J)I"⟩, prog_14_method_72_code, 5, (some .int), false, 1, 1602, 1600, 1601, 109),
  (⟨"NamesThatShrinkModel", "river", "()I"⟩, prog_14_method_73_code, 3, (some .int), false, 0, 1606, 1604, 1605, 109),
  (⟨"NamesThatShrinkModel", "alone", "(II)I"⟩, prog_14_method_74_code, 6, (some .int), false, 2, 1610, 1608, 1609, 109),
  (⟨"NamesThatShrinkModel", "areUnlike", "(J)Z"⟩, prog_14_method_75_code, 4, (some .boolean), false, 1, 1618, 1617, 87, 109)]
def zx_ms6 : List zx_Mt := [
  (⟨"NamesThatShrinkModel", "states", "()I"⟩, prog_14_method_76_code, 4, (some .int), false, 0, 1614, 1612, 1613, 109),
  (⟨"NamesThatShrinkModel", "comes", "(J)I"⟩, prog_14_method_77_code, 4, (some .int), false, 1, 1622, 1620, 1621, 109),
  (⟨"NamesThatShrinkModel", "countOf", "(I)I"⟩, prog_14_method_78_code, 3, (some .int), true, 1, 1630, 1629, 0, 109),
  (⟨"NamesThatShrinkModel", "nameAt", "(III)I"⟩, prog_14_method_79_code, 7, (some .int), true, 3, 1633, 1632, 0, 109),
  (⟨"NamesThatShrinkModel", "isSafe", "(II)Z"⟩, prog_14_method_80_code, 5, (some .boolean), false, 2, 1637, 1636, 88, 109),
  (⟨"NamesThatShrinkModel", "isNew", "(III)Z"⟩, prog_14_method_81_code, 6, (some .boolean), false, 3, 1641, 1640, 89, 109),
  (⟨"NamesThatShrinkModel", "names", "(III)I"⟩, prog_14_method_82_code, 9, (some .int), false, 3, 1626, 1624, 1625, 109),
  (⟨"NamesThatShrinkModel", "safe", "(II)I"⟩, prog_14_method_83_code, 8, (some .int), false, 2, 1645, 1643, 1644, 109),
  (⟨"NamesThatShrinkModel", "heardBy", "(I)I"⟩, prog_14_method_84_code, 5, (some .int), false, 1, 1657, 1656, 91, 109),
  (⟨"NamesThatShrinkModel", "listens", "()V"⟩, prog_14_method_85_code, 6, none, false, 0, 1653, 1652, 90, 109),
  (⟨"NamesThatShrinkModel", "sorts", "(II)V"⟩, prog_14_method_86_code, 8, none, false, 2, 1673, 1672, 93, 109),
  (⟨"NamesThatShrinkModel", "listen", "(I)I"⟩, prog_14_method_87_code, 2, (some .int), false, 1, 1649, 1647, 1648, 109),
  (⟨"NamesThatShrinkModel", "hears", "(IZ)I"⟩, prog_14_method_88_code, 3, (some .int), false, 2, 1661, 1659, 1660, 109),
  (⟨"NamesThatShrinkModel", "runs", "()I"⟩, prog_14_method_89_code, 5, (some .int), false, 0, 1669, 1668, 92, 109),
  (⟨"NamesThatShrinkModel", "knows", "()I"⟩, prog_14_method_90_code, 2, (some .int), false, 0, 1665, 1663, 1664, 109),
  (⟨"NamesThatShrinkModel", "asks", "()I"⟩, prog_14_method_91_code, 6, (some .int), false, 0, 1678, 1676, 1677, 109),
  (⟨"NamesThatShrinkModel", "forget", "()I"⟩, prog_14_method_92_code, 1, (some .int), false, 0, 1682, 1680, 1681, 109),
  (⟨"NamesThatShrinkModel", "seed", "(I)I"⟩, prog_14_method_93_code, 3, (some .int), false, 1, 1686, 1684, 1685, 109),
  (⟨"NamesThatShrinkModel", "keep", "(I)Z"⟩, prog_14_method_94_code, 4, (some .boolean), false, 1, 1690, 1688, 1689, 109),
  (⟨"NamesThatShrinkModel", "again", "(I)Z"⟩, prog_14_method_95_code, 4, (some .boolean), false, 1, 1695, 1693, 1694, 109),
  (⟨"NamesThatShrinkModel", "sides", "()I"⟩, prog_14_method_96_code, 3, (some .int), false, 0, 1703, 1702, 94, 109),
  (⟨"NamesThatShrinkModel", "answersOfAll", "()I"⟩, prog_14_method_97_code, 3, (some .int), false, 0, 1707, 1706, 95, 109),
  (⟨"NamesThatShrinkModel", "count", "(I)I"⟩, prog_14_method_98_code, 2, (some .int), false, 1, 1699, 1697, 1698, 109),
  (⟨"NamesThatShrinkModel", "<init>", "()V"⟩, prog_14_method_99_code, 1, none, false, 0, 1711, 1710, 0, 109),
  (⟨"NamesThatShrinkModel", "row", "(I)I"⟩, prog_14_method_100_code, 2, (some .int), false, 1, 1864, 1862, 1863, 109),
  (⟨"java/lang/Integer", "numberOfTrailingZeros", "(I)I"⟩, prog_17_method_48_code, 2, (some .int), true, 1, 835, 834, 0, 112),
  (⟨"java/lang/Integer", "bitCount", "(I)I"⟩, prog_17_method_49_code, 1, (some .int), true, 1, 640, 639, 0, 112),
  (⟨"java/lang/Long", "numberOfTrailingZeros", "(J)I"⟩, prog_18_method_49_code, 3, (some .int), true, 1, 969, 968, 0, 118),
  (⟨"java/lang/Long", "bitCount", "(J)I"⟩, prog_18_method_50_code, 2, (some .int), true, 1, 973, 972, 0, 118),
  (⟨"java/lang/Math", "max", "(II)I"⟩, prog_19_method_65_code, 2, (some .int), true, 2, 878, 877, 0, 110),
  (⟨"java/lang/Math", "min", "(II)I"⟩, prog_19_method_69_code, 2, (some .int), true, 2, 667, 666, 0, 110),
  (⟨"java/util/Arrays", "fill", "([II)V"⟩, prog_24_method_103_code, 4, none, true, 2, 1007, 1006, 0, 119),
  (⟨"NamesThatShrinkLaw", "law", "([I)Z"⟩, code, 7, (some .boolean), true, 1, 0, 0, 0, 96)]
def zx_ms : List zx_Mt := zx_ms0 ++ (zx_ms1 ++ (zx_ms2 ++ (zx_ms3 ++ (zx_ms4 ++ (zx_ms5 ++ (zx_ms6))))))
def zx_mcl : List Nat := [0, 0, 0, 0, 0, 0, 0, 0, 0, 0, 0, 0, 0, 0, 0, 1, 1, 1, 1, 2, 2, 2, 3, 3, 3, 3, 3, 3, 3, 3, 3, 3, 3, 3, 3, 3, 4, 4, 4, 4, 4, 4, 4, 4, 4, 4, 5, 5, 5, 5, 5, 5, 5, 5, 5, 5, 5, 5, 5, 6, 6, 6, 6, 6, 6, 6, 6, 6, 6, 6, 6, 6, 6, 6, 7, 7, 7, 7, 7, 7, 8, 8, 8, 9, 9, 9, 9, 9, 9, 9, 9, 9, 9, 9, 9, 9, 9, 9, 9, 9, 9, 9, 9, 9, 9, 9, 9, 9, 10, 10, 10, 10, 10, 10, 10, 10, 10, 11, 11, 11, 11, 11, 11, 11, 11, 11, 11, 11, 11, 11, 11, 11, 11, 11, 11, 11, 11, 11, 11, 11, 11, 11, 11, 11, 11, 11, 11, 11, 11, 11, 11, 11, 11, 11, 11, 11, 11, 11, 11, 11, 11, 11, 11, 11, 11, 12, 12, 12, 12, 12, 12, 12, 12, 12, 12, 12, 12, 12, 12, 12, 12, 12, 12, 12, 12, 12, 12, 12, 12, 12, 12, 12, 12, 12, 12, 12, 12, 12, 12, 12, 12, 12, 12, 12, 12, 12, 12, 12, 12, 12, 12, 12, 12, 12, 12, 12, 12, 12, 12, 12, 12, 12, 12, 12, 12, 12, 12, 12, 12, 12, 12, 12, 12, 12, 12, 12, 12, 12, 12, 12, 12, 12, 12, 12, 12, 12, 12, 12, 12, 12, 12, 12, 12, 12, 12, 12, 12, 12, 12, 12, 12, 12, 12, 12, 12, 99, 99, 99, 99, 99, 99, 99, 99]
def zx_mc (k : Nat) : Nat := zx_mcl.getD k 99
def zx_m (k : Nat) : zx_Mt := zx_ms.getD k (⟨"", "", ""⟩, code, 0, none, false, 0, 0, 0, 0, 0)
def zx_y (k : Nat) : MethodName := (zx_m k).1
def zx_b (k : Nat) : ByteArray := (zx_m k).2.1
def zx_mL (k : Nat) : Nat := (zx_m k).2.2.1
def zx_rt (k : Nat) : Option FieldType := (zx_m k).2.2.2.1
def zx_st (k : Nat) : Bool := (zx_m k).2.2.2.2.1
def zx_np (k : Nat) : Nat := (zx_m k).2.2.2.2.2.1
def zx_own (k : Nat) : String := (zx_y k).cls
def zx_good : List Jvm.Cond := lw_tbl.filter goodWord
def zx_w (p : Nat) (w : Jvm.Cond) : Bool := decide (lw_tbl[p]? = some w) && goodWord w
def zx_wn (p : Nat) (w : Jvm.Cond) : Bool := decide (lw_tbl[p]? = some w)
theorem zx_w_mem {p : Nat} {w : Jvm.Cond} (h : zx_w p w = true) : w ∈ zx_good := by
  simp only [zx_w, Bool.and_eq_true, decide_eq_true_eq] at h
  exact List.mem_filter.mpr ⟨List.mem_of_getElem? h.1, h.2⟩
theorem zx_wn_mem {p : Nat} {w : Jvm.Cond} (h : zx_wn p w = true) : w ∈ lw_tbl := by
  simp only [zx_wn, decide_eq_true_eq] at h
  exact List.mem_of_getElem? h
/-- a method's own words -/
def zx_mok (k : Nat) : Bool :=
  zx_w (zx_m k).2.2.2.2.2.2.1 (.code (zx_y k) (zx_b k) (zx_mL k) (zx_rt k)) &&
  (if zx_st k then zx_w (zx_m k).2.2.2.2.2.2.2.1 (.static (zx_y k)) else
    zx_w (zx_m k).2.2.2.2.2.2.2.1 (.instanceMethod (zx_y k)) && (decide ((zx_y k).name = "<init>") || zx_w (zx_m k).2.2.2.2.2.2.2.2.1 (.selects (zx_y k).cls (zx_y k) (zx_y k)))) &&
  zx_w (zx_m k).2.2.2.2.2.2.2.2.2 (.initialized (zx_y k).cls) &&
  decide ((zx_y k).cls ≠ "java/lang/invoke/MethodHandle" ∧ (zx_y k).cls ≠ "java/lang/invoke/VarHandle" ∧ (parseMethodDescriptor (zx_y k).desc).map (fun d => d.parameters.length) = some (zx_np k)) && decide (zx_mL k ≤ 45) && plainName (zx_y k).cls && (zx_st k || decide (zx_mc k < 13 ∧ zx_C (zx_mc k) = (zx_y k).cls))
abbrev zx_En : Type := Nat × Nat × Instr × Int32 × Int64 × Nat × Nat × Nat
/-- the lengths of the instructions -/
def zx_len (i : Instr) : Nat := match i with
  | .aload _ | .iload _ | .lload _ | .astore _ | .istore _ | .lstore _ | .bipush _ | .ldc _ | .newarray _ => 2
  | .sipush _ | .ldc_w _ | .ldc2_w _ | .iinc _ _ | .ifCond _ _ | .if_icmp _ _ | .goto _ | .getfield _ | .putfield _ | .getstatic _ | .new _ | .anewarray _ | .invokevirtual _ | .invokespecial _ | .invokestatic _ => 3
  | .multianewarray _ _ => 4
  | .tableswitch _ _ _ _ => 0
  | _ => 1
/-- an instruction's row: it is what the bytes decode to; what its pool entry links stands among the tables' words -/
def zx_opr (k pc : Nat) (ins : Instr) (v : Int32) (w : Int64) (p a b : Nat) : Bool := match ins with
  | .iconst n => decide (Int32.ofInt n = v)
  | .bipush n => decide ((Int8.ofInt n).toInt32 = v)
  | .sipush n => decide ((Int16.ofInt n).toInt32 = v)
  | .lconst n => decide (Int64.ofNat (n : Nat) = w)
  | .iinc i n => decide (Int32.ofInt n = v) && decide (i < zx_mL k)
  | .istore i => decide (i < zx_mL k)
  | .istore_n i => decide ((i : Nat) < zx_mL k)
  | .astore i => decide (i < zx_mL k)
  | .astore_n i => decide ((i : Nat) < zx_mL k)
  | .lstore i => decide (i + 1 < zx_mL k)
  | .lstore_n i => decide ((i : Nat) + 1 < zx_mL k)
  | .ldc i => zx_w p (.constant (zx_own k) i v)
  | .ldc_w i => zx_w p (.constant (zx_own k) i v)
  | .ldc2_w i => zx_w p (.constantLong (zx_own k) i w)
  | .getfield i => decide (a < 13 ∧ b < zx_N a) && zx_w p (.fieldLink (zx_own k) i (zx_T a b).1 (zx_T a b).2.1 (zx_T a b).2.2.1)
  | .putfield i => decide (a < 13 ∧ b < zx_N a) && zx_w p (.fieldLink (zx_own k) i (zx_T a b).1 (zx_T a b).2.1 (zx_T a b).2.2.1) && (!(zx_T a b).2.2.2 || decide ((zx_y k).name = "<init>" ∧ (zx_T a b).1 = zx_own k))
  | .getstatic i => zx_w p (.fieldLink (zx_own k) i "NamesThatShrink$NewNames" (if a = 1 then "SEVENS" else "SIXES") "[I") && decide (a = 1 ∨ a = 2)
  | .ifCond _ off => decide ((pc : Int) + off = (a : Int))
  | .if_icmp _ off => decide ((pc : Int) + off = (a : Int))
  | .goto off => decide ((pc : Int) + off = (a : Int))
  | .tableswitch d _ _ os => decide (0 ≤ (pc : Int) + d) && os.all (fun x => decide (0 ≤ (pc : Int) + x))
  | .newarray t => decide (newarray.typeOf t = zx_at a ∧ 20 ≤ a ∧ a ≤ 23) && zx_w p (.arrayClass (zx_at a))
  | .anewarray i => decide (a = 26) && zx_w p (.classLink (zx_own k) i "NamesThatShrink$Picks")
  | .multianewarray i n => decide (n = 2 ∧ (a = 24 ∨ a = 25)) && zx_w p (.classLink (zx_own k) i (if a = 24 then "[[I" else "[[J"))
  | .new i => decide (a = 99) || (decide (a < 13) && zx_w p (.classLink (zx_own k) i (zx_C a)))
  | .invokevirtual i => decide (a = 0) && !zx_st b && zx_mok b && zx_w p (.methodLink (zx_own k) i (zx_y b)) && decide ((zx_y b).name ≠ "<init>")
  | .invokespecial i => (decide (a = 1) && !zx_st b && zx_mok b && zx_w p (.methodLink (zx_own k) i (zx_y b)) && decide ((zx_y b).name = "<init>" ∧ zx_rt b = none)) ||
      (decide (a = 3) && !zx_st b && zx_mok b && zx_wn p (.methodLinkNest (zx_own k) i (zx_y b) "NamesThatShrink") && decide ((zx_y b).name = "<init>" ∧ zx_rt b = none)) ||
      (decide (a = 5) && zx_w p (.methodLink (zx_own k) i Lib.objectInit)) || decide (a = 9)
  | .invokestatic i => (decide (a = 2) && zx_st b && zx_mok b && zx_w p (.methodLink (zx_own k) i (zx_y b))) ||
      (decide (a = 4) && zx_st b && zx_mok b && zx_wn p (.methodLinkNest (zx_own k) i (zx_y b) "NamesThatShrink")) ||
      (decide (a = 6) && zx_w p (.methodLink (zx_own k) i arraycopyName)) || (decide (a = 7) && zx_w p (.methodLink (zx_own k) i Lib.Math.max.name)) || (decide (a = 8) && zx_w p (.methodLink (zx_own k) i Lib.Math.min.name)) || decide (a = 9)
  | _ => true
def zx_chk (k : Nat) (e : zx_En) : Bool := match e with
  | (pc, len, ins, v, w, p, a, b) => (match decode (zx_b k) pc with
    | .ok q => decide (q = (ins, len))
    | .error _ => false) && decide (zx_len ins = 0 ∨ len = zx_len ins) && zx_opr k pc ins v w p a b
