/-! tables, printed by wip/whole/gen_tab.py out of the Statement: classes, fields, methods, links, blocks -/
def am_CNT : List String := ["IceSearch", "IceSearch$Sea", "IceSearch$Party", "IceSearch$Clues", "IceSearch$Row", "IceSearch$Ways", "IceSearch$Masses", "IceSearch$Fleet", "IceSearch$Voyage", "IceSearch$Tape", "IceSearch$Reader", "IceSearch$Rules", "IceSearchModel", "java/lang/String", "IceSearchLaw", "java/util/Arrays", "java/lang/Math", "java/lang/Integer", "java/lang/System", "java/lang/StringLatin1", "jdk/internal/util/Preconditions"]
def am_CN (c : Nat) : String := am_CNT.getD c ""
def am_F0 : List (String × String × Bool × Nat) := [("sea", "LIceSearch$Sea;", true, 2), ("party", "LIceSearch$Party;", true, 2), ("clues", "LIceSearch$Clues;", true, 2), ("row", "LIceSearch$Row;", true, 2), ("ways", "LIceSearch$Ways;", true, 2), ("masses", "LIceSearch$Masses;", true, 2), ("fleet", "LIceSearch$Fleet;", true, 2), ("voyage", "LIceSearch$Voyage;", true, 2), ("tape", "LIceSearch$Tape;", true, 2), ("reader", "LIceSearch$Reader;", true, 2), ("noRules", "LIceSearch$Rules;", true, 2), ("rulesTold", "[LIceSearch$Rules;", true, 2), ("asked", "[I", true, 2), ("rulesBeside", "LIceSearch$Rules;", false, 2), ("rulesCount", "I", false, 0), ("today", "I", false, 0), ("last", "I", false, 0), ("hold", "I", false, 0)]
def am_F1 : List (String × String × Bool × Nat) := [("isLand", "[Z", true, 2), ("isHome", "[Z", true, 2), ("iceCell", "[I", true, 2), ("iceYear", "[I", true, 2), ("iceDay", "[I", true, 2), ("iceShut", "[Z", true, 2), ("shutYears", "[I", true, 2), ("iceCount", "I", false, 0), ("landCount", "I", false, 0), ("homeCount", "I", false, 0)]
def am_F2 : List (String × String × Bool × Nat) := [("cell", "I", false, 0), ("men", "I", false, 0), ("food", "I", false, 0), ("ashore", "I", false, 0)]
def am_F3 : List (String × String × Bool × Nat) := [("facts", "[I", true, 2), ("tellerTrust", "[I", true, 2), ("tellerBy", "[I", true, 2), ("doubtFind", "[I", true, 2), ("doubtDay", "[I", true, 2), ("doubtIs", "[Z", true, 2), ("keptFinds", "[I", true, 2), ("bars", "[I", true, 2), ("count", "I", false, 0), ("tellerCount", "I", false, 0), ("doubtCount", "I", false, 0), ("keptCount", "I", false, 0), ("barCount", "I", false, 0)]
def am_F4 : List (String × String × Bool × Nat) := [("sea", "LIceSearch$Sea;", true, 2), ("party", "LIceSearch$Party;", true, 2), ("clues", "LIceSearch$Clues;", true, 2), ("moves", "[I", true, 2), ("cells", "[I", true, 2), ("count", "I", false, 0)]
def am_F5 : List (String × String × Bool × Nat) := [("sea", "LIceSearch$Sea;", true, 2), ("party", "LIceSearch$Party;", true, 2), ("clues", "LIceSearch$Clues;", true, 2), ("sets", "[J", true, 2), ("across", "[J", true, 2), ("goals", "[I", true, 2)]
def am_F6 : List (String × String × Bool × Nat) := [("sea", "LIceSearch$Sea;", true, 2), ("party", "LIceSearch$Party;", true, 2), ("clues", "LIceSearch$Clues;", true, 2), ("mass", "[I", true, 2), ("share", "[I", true, 2), ("goals", "[I", true, 2), ("across", "[I", true, 2), ("around", "[I", true, 2)]
def am_F7 : List (String × String × Bool × Nat) := [("sea", "LIceSearch$Sea;", true, 2), ("harbour", "[I", true, 2), ("range", "[I", true, 2), ("well", "[I", true, 2), ("moves", "[I", true, 2), ("queue", "[I", true, 2), ("topCell", "[I", true, 2), ("topValue", "[I", true, 2), ("topCount", "[I", true, 2), ("row", "[I", true, 2), ("bestRow", "[I", true, 2), ("bestSum", "I", false, 0), ("count", "I", false, 0)]
def am_F8 : List (String × String × Bool × Nat) := [("sea", "LIceSearch$Sea;", true, 2), ("party", "LIceSearch$Party;", true, 2), ("asked", "[I", true, 2), ("cells", "[I", true, 2), ("cell", "I", false, 0), ("men", "I", false, 0), ("food", "I", false, 0), ("afoot", "Z", false, 3), ("saved", "I", false, 0)]
def am_F9 : List (String × String × Bool × Nat) := [("bytes", "[B", true, 2), ("tokens", "[I", true, 2), ("places", "[I", true, 2), ("tokenCount", "I", false, 0), ("fed", "I", false, 0)]
def am_F10 : List (String × String × Bool × Nat) := [("tape", "LIceSearch$Tape;", true, 2), ("lines", "[I", true, 2), ("code", "[I", true, 2), ("at", "I", false, 0), ("token", "I", false, 0), ("lineCount", "I", false, 0), ("codeCount", "I", false, 0), ("fault", "I", false, 0)]
def am_F11 : List (String × String × Bool × Nat) := [("told", "I", true, 0), ("size", "I", true, 0), ("lines", "[I", true, 2), ("code", "[I", true, 2)]
def am_F12 : List (String × String × Bool × Nat) := [("today", "I", false, 0), ("start", "I", false, 0), ("men", "I", false, 0), ("food", "I", false, 0), ("ashore", "I", false, 0), ("lastStep", "I", false, 0), ("hold", "I", false, 0), ("isLand", "[Z", true, 2), ("isHome", "[Z", true, 2), ("ices", "I", false, 0), ("iceCell", "[I", true, 2), ("iceYear", "[I", true, 2), ("iceTold", "[I", true, 2), ("iceIs", "[Z", true, 2), ("isShut", "[Z", true, 2), ("tellers", "I", false, 0), ("finds", "I", false, 0), ("doubts", "I", false, 0), ("tellerTrust", "[I", true, 2), ("toldBy", "[I", true, 2), ("kind", "[I", true, 2), ("place", "[I", true, 2), ("first", "[I", true, 2), ("last", "[I", true, 2), ("reach", "[I", true, 2), ("teller", "[I", true, 2), ("finder", "[I", true, 2), ("told", "[I", true, 2), ("doubtOf", "[I", true, 2), ("doubtTold", "[I", true, 2), ("doubtIs", "[Z", true, 2), ("met", "I", false, 0), ("bars", "I", false, 0), ("metFind", "[I", true, 2), ("barFind", "[I", true, 2), ("sets", "[J", true, 2), ("before", "[J", true, 2), ("moves", "I", false, 0), ("row", "[I", true, 2), ("menNow", "I", false, 0), ("foodNow", "I", false, 0), ("mass", "[J", true, 2), ("parted", "[J", true, 2), ("ships", "I", false, 0), ("shipHome", "[I", true, 2), ("range", "[I", true, 2), ("well", "[I", true, 2), ("trips", "[I", true, 2), ("best", "[I", true, 2), ("choice", "[I", true, 2), ("chosen", "[I", true, 2), ("bestSum", "J", false, 1), ("rules", "I", false, 0), ("nodes", "I", false, 0), ("taped", "I", false, 0), ("size", "I", false, 0), ("at", "I", false, 0), ("deep", "I", false, 0), ("fault", "I", false, 0), ("hasBeside", "Z", false, 3), ("statements", "[I", true, 2), ("taken", "[I", true, 2), ("sort", "[I", true, 2), ("of", "[I", true, 2), ("coins", "[I", true, 2), ("when", "[I", true, 2), ("nodeKind", "[I", true, 2), ("nodeFirst", "[I", true, 2), ("nodeNext", "[I", true, 2), ("nodeWord", "[I", true, 2), ("nodeSign", "[I", true, 2), ("nodeNumber", "[I", true, 2), ("here", "[I", true, 2), ("tape", "[B", true, 2), ("text", "[B", true, 2), ("wordEnd", "I", false, 0), ("read", "I", false, 0), ("cellNow", "I", false, 0), ("savedOn", "I", false, 0), ("isAfoot", "Z", false, 3), ("track", "[I", true, 2)]
def am_F13 : List (String × String × Bool × Nat) := [("value", "[B", true, 2), ("coder", "B", true, 4)]
def am_FT : List (List (String × String × Bool × Nat)) := [am_F0, am_F1, am_F2, am_F3, am_F4, am_F5, am_F6, am_F7, am_F8, am_F9, am_F10, am_F11, am_F12, am_F13]
def am_fs (c : Nat) : List (String × String × Bool × Nat) := am_FT.getD c []
def am_f (c k : Nat) : String × String × Bool × Nat := (am_fs c).getD k ("", "", false, 9)
def am_nf (c : Nat) : Nat := (am_fs c).length
def am_KDT : List (Nat × Nat) := [(99, 0), (20, 9), (20, 9), (21, 6), (21, 6), (13, 2), (13, 2), (23, 138), (23, 6), (0, 18), (1, 10), (22, 256), (22, 256), (20, 200), (20, 200), (20, 200), (22, 200), (20, 256), (2, 4), (3, 13), (20, 360), (20, 10), (20, 10), (20, 200), (20, 200), (22, 200), (20, 6), (20, 40), (4, 6), (20, 119), (20, 120), (5, 6), (21, 256), (21, 256), (20, 256), (6, 8), (20, 256), (20, 256), (20, 256), (20, 256), (20, 256), (7, 13), (20, 4), (20, 4), (20, 4), (20, 256), (20, 256), (20, 16), (20, 16), (20, 4), (20, 4), (20, 4), (8, 9), (20, 12), (20, 120), (9, 5), (23, 700), (20, 701), (20, 701), (10, 8), (20, 150), (20, 700), (11, 4), (20, 0), (20, 0), (24, 8), (20, 12), (12, 81), (22, 256), (22, 256), (20, 200), (20, 200), (20, 200), (22, 200), (22, 3072), (20, 10), (20, 10), (20, 40), (20, 40), (20, 40), (20, 40), (20, 40), (20, 40), (20, 40), (20, 40), (20, 200), (20, 200), (22, 200), (20, 6), (20, 40), (21, 256), (21, 256), (20, 119), (21, 256), (21, 256), (20, 4), (20, 4), (20, 4), (20, 256), (20, 16), (20, 4), (20, 4), (20, 10), (20, 10), (20, 300), (20, 300), (20, 300), (20, 300), (20, 7200), (20, 7200), (20, 7200), (20, 7200), (20, 7200), (20, 7200), (20, 12), (23, 700), (23, 700), (20, 120)]
def am_KD (i : Nat) : Nat × Nat := am_KDT.getD i (99, 0)
def am_FAT : List (List Nat) := [[], [], [], [], [], [8], [9], [], [], [11, 19, 20, 29, 32, 36, 42, 53, 56, 60, 63, 66, 67], [12, 13, 14, 15, 16, 17, 18], [], [], [], [], [], [], [], [], [21, 22, 23, 24, 25, 26, 27, 28], [], [], [], [], [], [], [], [], [11, 19, 20, 30, 31], [], [], [11, 19, 20, 33, 34, 35], [], [], [], [11, 19, 20, 37, 38, 39, 40, 41], [], [], [], [], [], [11, 43, 44, 45, 46, 47, 48, 49, 50, 51, 52], [], [], [], [], [], [], [], [], [], [], [11, 19, 54, 55], [], [], [57, 58, 59], [], [], [], [56, 61, 62], [], [], [0, 0, 64, 65], [], [], [], [], [0, 0, 0, 0, 0, 0, 0, 69, 70, 0, 71, 72, 73, 74, 75, 0, 0, 0, 76, 77, 78, 79, 80, 81, 82, 83, 84, 85, 86, 87, 88, 0, 0, 89, 90, 91, 92, 0, 93, 0, 0, 94, 95, 0, 96, 97, 98, 99, 100, 101, 102, 0, 0, 0, 0, 0, 0, 0, 0, 0, 103, 104, 105, 106, 107, 108, 109, 110, 111, 112, 113, 114, 115, 116, 117, 0, 0, 0, 0, 0, 118], [], [], [], [], [], [], [], [], [], [], [], [], [], [], [], [], [], [], [], [], [], [], [], [], [], [], [], [], [], [], [], [], [], [], [], [], [], [], [], [], [], [], [], [], [], [], [], [], [], []]
def am_FA (i k : Nat) : Nat := (am_FAT.getD i []).getD k 0
def am_FDT : List (List (Nat × Nat × Nat × Bool)) := [[(0, 0, 2, true), (0, 1, 2, true), (0, 2, 2, true), (0, 3, 2, true), (0, 4, 2, true), (0, 5, 2, true), (0, 6, 2, true), (0, 7, 2, true), (0, 8, 2, true), (0, 9, 2, true), (0, 10, 2, true), (0, 11, 2, true), (0, 12, 2, true), (0, 13, 2, false), (0, 14, 0, false), (0, 15, 0, false), (0, 16, 0, false), (0, 17, 0, false)],
  [(1, 0, 2, true), (1, 1, 2, true), (1, 2, 2, true), (1, 3, 2, true), (1, 4, 2, true), (1, 5, 2, true), (1, 6, 2, true), (1, 7, 0, false), (1, 8, 0, false), (1, 9, 0, false)],
  [(2, 0, 0, false), (2, 1, 0, false), (2, 2, 0, false), (2, 3, 0, false)],
  [(3, 0, 2, true), (3, 1, 2, true), (3, 2, 2, true), (3, 3, 2, true), (3, 4, 2, true), (3, 5, 2, true), (3, 6, 2, true), (3, 7, 2, true), (3, 8, 0, false), (3, 9, 0, false), (3, 10, 0, false), (3, 11, 0, false), (3, 12, 0, false)],
  [(4, 0, 2, true), (4, 1, 2, true), (4, 2, 2, true), (4, 3, 2, true), (4, 4, 2, true), (4, 5, 0, false)],
  [(5, 0, 2, true), (5, 1, 2, true), (5, 2, 2, true), (5, 3, 2, true), (5, 4, 2, true), (5, 5, 2, true)],
  [(6, 0, 2, true), (6, 1, 2, true), (6, 2, 2, true), (6, 3, 2, true), (6, 4, 2, true), (6, 5, 2, true), (6, 6, 2, true), (6, 7, 2, true)],
  [(7, 0, 2, true), (7, 1, 2, true), (7, 2, 2, true), (7, 3, 2, true), (7, 4, 2, true), (7, 5, 2, true), (7, 6, 2, true), (7, 7, 2, true), (7, 8, 2, true), (7, 9, 2, true), (7, 10, 2, true), (7, 11, 0, false), (7, 12, 0, false)],
  [(8, 0, 2, true), (8, 1, 2, true), (8, 2, 2, true), (8, 3, 2, true), (8, 4, 0, false), (8, 5, 0, false), (8, 6, 0, false), (8, 7, 3, false), (8, 8, 0, false)],
  [(9, 0, 2, true), (9, 1, 2, true), (9, 2, 2, true), (9, 3, 0, false), (9, 4, 0, false)],
  [(10, 0, 2, true), (10, 1, 2, true), (10, 2, 2, true), (10, 3, 0, false), (10, 4, 0, false), (10, 5, 0, false), (10, 6, 0, false), (10, 7, 0, false)],
  [(11, 0, 0, true), (11, 1, 0, true), (11, 2, 2, true), (11, 3, 2, true)],
  [(12, 0, 0, false), (12, 1, 0, false), (12, 2, 0, false), (12, 3, 0, false), (12, 4, 0, false), (12, 5, 0, false), (12, 6, 0, false), (12, 7, 2, true), (12, 8, 2, true), (12, 9, 0, false), (12, 10, 2, true), (12, 11, 2, true), (12, 12, 2, true), (12, 13, 2, true), (12, 14, 2, true), (12, 15, 0, false), (12, 16, 0, false), (12, 17, 0, false), (12, 18, 2, true), (12, 19, 2, true), (12, 20, 2, true), (12, 21, 2, true), (12, 22, 2, true), (12, 23, 2, true), (12, 24, 2, true), (12, 25, 2, true), (12, 26, 2, true), (12, 27, 2, true), (12, 28, 2, true), (12, 29, 2, true), (12, 30, 2, true), (12, 31, 0, false), (12, 32, 0, false), (12, 33, 2, true), (12, 34, 2, true), (12, 35, 2, true), (12, 36, 2, true), (12, 37, 0, false), (12, 38, 2, true), (12, 39, 0, false), (12, 40, 0, false), (12, 41, 2, true), (12, 42, 2, true), (12, 43, 0, false), (12, 44, 2, true), (12, 45, 2, true), (12, 46, 2, true), (12, 47, 2, true), (12, 48, 2, true), (12, 49, 2, true), (12, 50, 2, true), (12, 51, 1, false), (12, 52, 0, false), (12, 53, 0, false), (12, 54, 0, false), (12, 55, 0, false), (12, 56, 0, false), (12, 57, 0, false), (12, 58, 0, false), (12, 59, 3, false), (12, 60, 2, true), (12, 61, 2, true), (12, 62, 2, true), (12, 63, 2, true), (12, 64, 2, true), (12, 65, 2, true), (12, 66, 2, true), (12, 67, 2, true), (12, 68, 2, true), (12, 69, 2, true), (12, 70, 2, true), (12, 71, 2, true), (12, 72, 2, true), (12, 73, 2, true), (12, 74, 2, true), (12, 75, 0, false), (12, 76, 0, false), (12, 77, 0, false), (12, 78, 0, false), (12, 79, 3, false), (12, 80, 2, true)],
  [(13, 0, 2, true), (13, 1, 4, true)]]
def am_fd (fid : Nat) : Nat × Nat × Nat × Bool := (am_FDT.getD (fid / 100) []).getD (fid % 100) (99, 0, 9, false)
def am_SVT : List Value := [.ref 1, .ref 2, .ref 3, .ref 4, .int 1, .retAddr 0]
def am_SV (k : Nat) : Option Value := am_SVT[k]?
def am_SNT : List (String × String × String) := [("IceSearch", "ROWS_OF_MOVE", "[I"), ("IceSearch", "COLUMNS_OF_MOVE", "[I"), ("IceSearch$Ways", "SETS_WITH", "[J"), ("IceSearchModel", "WITHOUT", "[J"), ("java/lang/String", "COMPACT_STRINGS", "Z"), ("jdk/internal/util/Preconditions", "SIOOBE_FORMATTER", "Ljava/util/function/BiFunction;")]
def am_SN (k : Nat) : String × String × String := am_SNT.getD k ("", "", "")
abbrev am_c0 : ByteArray := prog_1_method_1_code
abbrev am_c1 : ByteArray := prog_9_method_1_code
abbrev am_c2 : ByteArray := prog_5_method_1_code
abbrev am_c3 : ByteArray := prog_2_method_1_code
abbrev am_c4 : ByteArray := prog_7_method_1_code
abbrev am_c5 : ByteArray := prog_12_method_1_code
abbrev am_c6 : ByteArray := prog_4_method_1_code
abbrev am_c7 : ByteArray := prog_3_method_1_code
abbrev am_c8 : ByteArray := prog_11_method_1_code
abbrev am_c9 : ByteArray := prog_10_method_1_code
abbrev am_c10 : ByteArray := prog_6_method_1_code
abbrev am_c11 : ByteArray := prog_8_method_1_code
abbrev am_c12 : ByteArray := prog_1_method_2_code
abbrev am_c13 : ByteArray := prog_1_method_3_code
abbrev am_c14 : ByteArray := prog_1_method_38_code
abbrev am_c15 : ByteArray := prog_9_method_4_code
abbrev am_c16 : ByteArray := prog_1_method_4_code
abbrev am_c17 : ByteArray := prog_9_method_2_code
abbrev am_c18 : ByteArray := prog_1_method_41_code
abbrev am_c19 : ByteArray := prog_1_method_5_code
abbrev am_c20 : ByteArray := prog_1_method_43_code
abbrev am_c21 : ByteArray := prog_1_method_6_code
abbrev am_c22 : ByteArray := prog_1_method_40_code
abbrev am_c23 : ByteArray := prog_9_method_6_code
abbrev am_c24 : ByteArray := prog_1_method_7_code
abbrev am_c25 : ByteArray := prog_1_method_39_code
abbrev am_c26 : ByteArray := prog_9_method_7_code
abbrev am_c27 : ByteArray := prog_1_method_8_code
abbrev am_c28 : ByteArray := prog_2_method_8_code
abbrev am_c29 : ByteArray := prog_2_method_4_code
abbrev am_c30 : ByteArray := prog_1_method_9_code
abbrev am_c31 : ByteArray := prog_2_method_5_code
abbrev am_c32 : ByteArray := prog_1_method_42_code
abbrev am_c33 : ByteArray := prog_2_method_3_code
abbrev am_c34 : ByteArray := prog_2_method_6_code
abbrev am_c35 : ByteArray := prog_2_method_9_code
abbrev am_c36 : ByteArray := prog_1_method_48_code
abbrev am_c37 : ByteArray := prog_1_method_10_code
abbrev am_c38 : ByteArray := prog_2_method_2_code
abbrev am_c39 : ByteArray := prog_2_method_10_code
abbrev am_c40 : ByteArray := prog_2_method_11_code
abbrev am_c41 : ByteArray := prog_1_method_11_code
abbrev am_c42 : ByteArray := prog_2_method_7_code
abbrev am_c43 : ByteArray := prog_1_method_12_code
abbrev am_c44 : ByteArray := prog_2_method_18_code
abbrev am_c45 : ByteArray := prog_2_method_13_code
abbrev am_c46 : ByteArray := prog_2_method_15_code
abbrev am_c47 : ByteArray := prog_2_method_19_code
abbrev am_c48 : ByteArray := prog_2_method_20_code
abbrev am_c49 : ByteArray := prog_1_method_13_code
abbrev am_c50 : ByteArray := prog_1_method_50_code
abbrev am_c51 : ByteArray := prog_9_method_8_code
abbrev am_c52 : ByteArray := prog_23_method_103_code
abbrev am_c53 : ByteArray := prog_12_method_2_code
abbrev am_c54 : ByteArray := prog_23_method_101_code
abbrev am_c55 : ByteArray := prog_12_method_3_code
abbrev am_c56 : ByteArray := prog_5_method_2_code
abbrev am_c57 : ByteArray := prog_9_method_10_code
abbrev am_c58 : ByteArray := prog_9_method_9_code
abbrev am_c59 : ByteArray := prog_12_method_5_code
abbrev am_c60 : ByteArray := prog_12_method_4_code
abbrev am_c61 : ByteArray := prog_2_method_21_code
abbrev am_c62 : ByteArray := prog_2_method_16_code
abbrev am_c63 : ByteArray := prog_12_method_6_code
abbrev am_c64 : ByteArray := prog_2_method_17_code
abbrev am_c65 : ByteArray := prog_1_method_45_code
abbrev am_c66 : ByteArray := prog_18_method_59_code
abbrev am_c67 : ByteArray := prog_18_method_65_code
abbrev am_c68 : ByteArray := prog_12_method_7_code
abbrev am_c69 : ByteArray := prog_12_method_8_code
abbrev am_c70 : ByteArray := prog_1_method_14_code
abbrev am_c71 : ByteArray := prog_12_method_9_code
abbrev am_c72 : ByteArray := prog_17_method_49_code
abbrev am_c73 : ByteArray := prog_1_method_15_code
abbrev am_c74 : ByteArray := prog_1_method_49_code
abbrev am_c75 : ByteArray := prog_1_method_16_code
abbrev am_c76 : ByteArray := prog_1_method_17_code
abbrev am_c77 : ByteArray := prog_1_method_18_code
abbrev am_c78 : ByteArray := prog_7_method_2_code
abbrev am_c79 : ByteArray := prog_1_method_19_code
abbrev am_c80 : ByteArray := prog_7_method_3_code
abbrev am_c81 : ByteArray := prog_1_method_20_code
abbrev am_c82 : ByteArray := prog_7_method_4_code
abbrev am_c83 : ByteArray := prog_7_method_5_code
abbrev am_c84 : ByteArray := prog_7_method_6_code
abbrev am_c85 : ByteArray := prog_1_method_46_code
abbrev am_c86 : ByteArray := prog_2_method_22_code
abbrev am_c87 : ByteArray := prog_7_method_7_code
abbrev am_c88 : ByteArray := prog_1_method_21_code
abbrev am_c89 : ByteArray := prog_11_method_2_code
abbrev am_c90 : ByteArray := prog_11_method_3_code
abbrev am_c91 : ByteArray := prog_1_method_22_code
abbrev am_c92 : ByteArray := prog_4_method_2_code
abbrev am_c93 : ByteArray := prog_4_method_4_code
abbrev am_c94 : ByteArray := prog_4_method_5_code
abbrev am_c95 : ByteArray := prog_4_method_6_code
abbrev am_c96 : ByteArray := prog_4_method_7_code
abbrev am_c97 : ByteArray := prog_4_method_8_code
abbrev am_c98 : ByteArray := prog_1_method_23_code
abbrev am_c99 : ByteArray := prog_4_method_3_code
abbrev am_c100 : ByteArray := prog_1_method_24_code
abbrev am_c101 : ByteArray := prog_1_method_25_code
abbrev am_c102 : ByteArray := prog_3_method_3_code
abbrev am_c103 : ByteArray := prog_1_method_26_code
abbrev am_c104 : ByteArray := prog_3_method_2_code
abbrev am_c105 : ByteArray := prog_3_method_4_code
abbrev am_c106 : ByteArray := prog_3_method_5_code
abbrev am_c107 : ByteArray := prog_3_method_6_code
abbrev am_c108 : ByteArray := prog_1_method_27_code
abbrev am_c109 : ByteArray := prog_3_method_7_code
abbrev am_c110 : ByteArray := prog_3_method_8_code
abbrev am_c111 : ByteArray := prog_3_method_9_code
abbrev am_c112 : ByteArray := prog_18_method_69_code
abbrev am_c113 : ByteArray := prog_3_method_10_code
abbrev am_c114 : ByteArray := prog_3_method_11_code
abbrev am_c115 : ByteArray := prog_3_method_12_code
abbrev am_c116 : ByteArray := prog_3_method_13_code
abbrev am_c117 : ByteArray := prog_1_method_28_code
abbrev am_c118 : ByteArray := prog_10_method_2_code
abbrev am_c119 : ByteArray := prog_10_method_4_code
abbrev am_c120 : ByteArray := prog_1_method_29_code
abbrev am_c121 : ByteArray := prog_10_method_3_code
abbrev am_c122 : ByteArray := prog_6_method_2_code
abbrev am_c123 : ByteArray := prog_10_method_5_code
abbrev am_c124 : ByteArray := prog_10_method_9_code
abbrev am_c125 : ByteArray := prog_10_method_15_code
abbrev am_c126 : ByteArray := prog_10_method_16_code
abbrev am_c127 : ByteArray := prog_10_method_14_code
abbrev am_c128 : ByteArray := prog_10_method_10_code
abbrev am_c129 : ByteArray := prog_10_method_12_code
abbrev am_c130 : ByteArray := prog_19_method_54_code
abbrev am_c131 : ByteArray := prog_19_method_152_code
abbrev am_c132 : ByteArray := prog_19_method_56_code
abbrev am_c133 : ByteArray := prog_19_method_154_code
abbrev am_c134 : ByteArray := prog_20_method_2_code
abbrev am_c135 : ByteArray := prog_19_method_155_code
abbrev am_c136 : ByteArray := prog_24_method_11_code
abbrev am_c137 : ByteArray := prog_10_method_13_code
abbrev am_c138 : ByteArray := prog_10_method_11_code
abbrev am_c139 : ByteArray := prog_19_method_79_code
abbrev am_c140 : ByteArray := prog_19_method_80_code
abbrev am_c141 : ByteArray := prog_20_method_22_code
abbrev am_c142 : ByteArray := prog_20_method_4_code
abbrev am_c143 : ByteArray := prog_20_method_23_code
abbrev am_c144 : ByteArray := prog_10_method_8_code
abbrev am_c145 : ByteArray := prog_10_method_6_code
abbrev am_c146 : ByteArray := prog_6_method_3_code
abbrev am_c147 : ByteArray := prog_6_method_4_code
abbrev am_c148 : ByteArray := prog_6_method_10_code
abbrev am_c149 : ByteArray := prog_6_method_5_code
abbrev am_c150 : ByteArray := prog_6_method_6_code
abbrev am_c151 : ByteArray := prog_6_method_7_code
abbrev am_c152 : ByteArray := prog_6_method_8_code
abbrev am_c153 : ByteArray := prog_6_method_9_code
abbrev am_c154 : ByteArray := prog_10_method_7_code
abbrev am_c155 : ByteArray := prog_23_method_123_code
abbrev am_c156 : ByteArray := prog_1_method_30_code
abbrev am_c157 : ByteArray := prog_1_method_31_code
abbrev am_c158 : ByteArray := prog_1_method_32_code
abbrev am_c159 : ByteArray := prog_9_method_5_code
abbrev am_c160 : ByteArray := prog_1_method_33_code
abbrev am_c161 : ByteArray := prog_1_method_44_code
abbrev am_c162 : ByteArray := prog_1_method_51_code
abbrev am_c163 : ByteArray := prog_11_method_4_code
abbrev am_c164 : ByteArray := prog_11_method_5_code
abbrev am_c165 : ByteArray := prog_9_method_3_code
abbrev am_c166 : ByteArray := prog_11_method_6_code
abbrev am_c167 : ByteArray := prog_11_method_7_code
abbrev am_c168 : ByteArray := prog_1_method_47_code
abbrev am_c169 : ByteArray := prog_8_method_7_code
abbrev am_c170 : ByteArray := prog_8_method_3_code
abbrev am_c171 : ByteArray := prog_8_method_2_code
abbrev am_c172 : ByteArray := prog_8_method_5_code
abbrev am_c173 : ByteArray := prog_8_method_4_code
abbrev am_c174 : ByteArray := prog_8_method_6_code
abbrev am_c175 : ByteArray := prog_11_method_8_code
abbrev am_c176 : ByteArray := prog_11_method_9_code
abbrev am_c177 : ByteArray := prog_1_method_34_code
abbrev am_c178 : ByteArray := prog_1_method_35_code
abbrev am_c179 : ByteArray := prog_8_method_9_code
abbrev am_c180 : ByteArray := prog_8_method_10_code
abbrev am_c181 : ByteArray := prog_1_method_36_code
abbrev am_c182 : ByteArray := prog_1_method_52_code
abbrev am_c183 : ByteArray := prog_2_method_14_code
abbrev am_c184 : ByteArray := prog_8_method_8_code
abbrev am_c185 : ByteArray := prog_1_method_37_code
abbrev am_c186 : ByteArray := prog_2_method_12_code
abbrev am_c187 : ByteArray := prog_14_method_1_code
abbrev am_c188 : ByteArray := prog_14_method_8_code
abbrev am_c189 : ByteArray := prog_14_method_9_code
abbrev am_c190 : ByteArray := prog_14_method_4_code
abbrev am_c191 : ByteArray := prog_14_method_2_code
abbrev am_c192 : ByteArray := prog_14_method_10_code
abbrev am_c193 : ByteArray := prog_14_method_11_code
abbrev am_c194 : ByteArray := prog_14_method_12_code
abbrev am_c195 : ByteArray := prog_14_method_13_code
abbrev am_c196 : ByteArray := prog_14_method_15_code
abbrev am_c197 : ByteArray := prog_14_method_5_code
abbrev am_c198 : ByteArray := prog_14_method_14_code
abbrev am_c199 : ByteArray := prog_14_method_3_code
abbrev am_c200 : ByteArray := prog_14_method_18_code
abbrev am_c201 : ByteArray := prog_14_method_20_code
abbrev am_c202 : ByteArray := prog_14_method_19_code
abbrev am_c203 : ByteArray := prog_14_method_23_code
abbrev am_c204 : ByteArray := prog_14_method_22_code
abbrev am_c205 : ByteArray := prog_14_method_24_code
abbrev am_c206 : ByteArray := prog_14_method_21_code
abbrev am_c207 : ByteArray := prog_14_method_27_code
abbrev am_c208 : ByteArray := prog_14_method_26_code
abbrev am_c209 : ByteArray := prog_14_method_25_code
abbrev am_c210 : ByteArray := prog_14_method_34_code
abbrev am_c211 : ByteArray := prog_14_method_31_code
abbrev am_c212 : ByteArray := prog_14_method_17_code
abbrev am_c213 : ByteArray := prog_14_method_16_code
abbrev am_c214 : ByteArray := prog_14_method_7_code
abbrev am_c215 : ByteArray := prog_14_method_28_code
abbrev am_c216 : ByteArray := prog_14_method_30_code
abbrev am_c217 : ByteArray := prog_14_method_29_code
abbrev am_c218 : ByteArray := prog_14_method_6_code
abbrev am_c219 : ByteArray := prog_14_method_32_code
abbrev am_c220 : ByteArray := prog_14_method_33_code
abbrev am_c221 : ByteArray := prog_14_method_36_code
abbrev am_c222 : ByteArray := prog_14_method_35_code
abbrev am_c223 : ByteArray := prog_14_method_37_code
abbrev am_c224 : ByteArray := prog_14_method_38_code
abbrev am_c225 : ByteArray := prog_14_method_39_code
abbrev am_c226 : ByteArray := prog_14_method_40_code
abbrev am_c227 : ByteArray := prog_14_method_41_code
abbrev am_c228 : ByteArray := prog_14_method_42_code
abbrev am_c229 : ByteArray := prog_14_method_44_code
abbrev am_c230 : ByteArray := prog_14_method_43_code
abbrev am_c231 : ByteArray := prog_14_method_48_code
abbrev am_c232 : ByteArray := prog_14_method_45_code
abbrev am_c233 : ByteArray := prog_14_method_46_code
abbrev am_c234 : ByteArray := prog_14_method_47_code
abbrev am_c235 : ByteArray := prog_14_method_49_code
abbrev am_c236 : ByteArray := prog_14_method_50_code
abbrev am_c237 : ByteArray := prog_14_method_51_code
abbrev am_c238 : ByteArray := prog_14_method_53_code
abbrev am_c239 : ByteArray := prog_14_method_52_code
abbrev am_c240 : ByteArray := prog_14_method_58_code
abbrev am_c241 : ByteArray := prog_14_method_55_code
abbrev am_c242 : ByteArray := prog_14_method_54_code
abbrev am_c243 : ByteArray := prog_14_method_56_code
abbrev am_c244 : ByteArray := prog_14_method_57_code
abbrev am_c245 : ByteArray := prog_14_method_59_code
abbrev am_c246 : ByteArray := prog_14_method_60_code
abbrev am_c247 : ByteArray := prog_14_method_77_code
abbrev am_c248 : ByteArray := prog_14_method_75_code
abbrev am_c249 : ByteArray := prog_14_method_61_code
abbrev am_c250 : ByteArray := prog_14_method_74_code
abbrev am_c251 : ByteArray := prog_14_method_73_code
abbrev am_c252 : ByteArray := prog_14_method_63_code
abbrev am_c253 : ByteArray := prog_14_method_62_code
abbrev am_c254 : ByteArray := prog_14_method_71_code
abbrev am_c255 : ByteArray := prog_14_method_72_code
abbrev am_c256 : ByteArray := prog_14_method_65_code
abbrev am_c257 : ByteArray := prog_14_method_67_code
abbrev am_c258 : ByteArray := prog_14_method_66_code
abbrev am_c259 : ByteArray := prog_14_method_68_code
abbrev am_c260 : ByteArray := prog_14_method_70_code
abbrev am_c261 : ByteArray := prog_14_method_64_code
abbrev am_c262 : ByteArray := prog_14_method_69_code
abbrev am_c263 : ByteArray := prog_14_method_76_code
abbrev am_c264 : ByteArray := prog_14_method_78_code
abbrev am_c265 : ByteArray := prog_14_method_79_code
abbrev am_c266 : ByteArray := prog_14_method_81_code
abbrev am_c267 : ByteArray := prog_14_method_80_code
abbrev am_c268 : ByteArray := prog_14_method_88_code
abbrev am_c269 : ByteArray := prog_14_method_85_code
abbrev am_c270 : ByteArray := prog_14_method_86_code
abbrev am_c271 : ByteArray := prog_14_method_84_code
abbrev am_c272 : ByteArray := prog_14_method_83_code
abbrev am_c273 : ByteArray := prog_14_method_82_code
abbrev am_c274 : ByteArray := prog_14_method_87_code
abbrev am_c275 : ByteArray := prog_14_method_89_code
abbrev am_c276 : ByteArray := prog_14_method_91_code
abbrev am_c277 : ByteArray := prog_14_method_90_code
abbrev am_c278 : ByteArray := prog_14_method_92_code
abbrev am_c279 : ByteArray := code
def am_MT0 : List (MethodName × ByteArray × Nat × Option FieldType × Nat × Nat × Bool) := [(⟨"IceSearch", "<init>", "()V"⟩, am_c0, 1, none, 0, 1, false),
  (⟨"IceSearch$Sea", "<init>", "()V"⟩, am_c1, 1, none, 1, 1, false),
  (⟨"IceSearch$Party", "<init>", "()V"⟩, am_c2, 1, none, 2, 1, false),
  (⟨"IceSearch$Clues", "<init>", "()V"⟩, am_c3, 1, none, 3, 1, false),
  (⟨"IceSearch$Row", "<init>", "(LIceSearch$Sea;LIceSearch$Party;LIceSearch$Clues;)V"⟩, am_c4, 4, none, 4, 4, false),
  (⟨"IceSearch$Ways", "<init>", "(LIceSearch$Sea;LIceSearch$Party;LIceSearch$Clues;)V"⟩, am_c5, 4, none, 5, 4, false),
  (⟨"IceSearch$Masses", "<init>", "(LIceSearch$Sea;LIceSearch$Party;LIceSearch$Clues;)V"⟩, am_c6, 4, none, 6, 4, false),
  (⟨"IceSearch$Fleet", "<init>", "(LIceSearch$Sea;)V"⟩, am_c7, 2, none, 7, 2, false),
  (⟨"IceSearch$Voyage", "<init>", "(LIceSearch$Sea;LIceSearch$Party;)V"⟩, am_c8, 3, none, 8, 3, false),
  (⟨"IceSearch$Tape", "<init>", "()V"⟩, am_c9, 1, none, 9, 1, false),
  (⟨"IceSearch$Reader", "<init>", "(LIceSearch$Tape;)V"⟩, am_c10, 2, none, 10, 2, false),
  (⟨"IceSearch$Rules", "<init>", "(II[I[I)V"⟩, am_c11, 5, none, 11, 5, false),
  (⟨"IceSearch", "day", "(I)Z"⟩, am_c12, 2, (some Jvm.ClassFile.FieldType.boolean), 0, 2, false),
  (⟨"IceSearch", "land", "(IZ)Z"⟩, am_c13, 3, (some Jvm.ClassFile.FieldType.boolean), 0, 3, false)]
def am_MT1 : List (MethodName × ByteArray × Nat × Option FieldType × Nat × Nat × Bool) := [(⟨"IceSearch", "isCell", "(I)Z"⟩, am_c14, 1, (some Jvm.ClassFile.FieldType.boolean), 0, 1, true),
  (⟨"IceSearch$Sea", "tellLand", "(IZ)V"⟩, am_c15, 3, none, 1, 3, false),
  (⟨"IceSearch", "lost", "(IIII)Z"⟩, am_c16, 6, (some Jvm.ClassFile.FieldType.boolean), 0, 5, false),
  (⟨"IceSearch$Sea", "isSea", "(I)Z"⟩, am_c17, 2, (some Jvm.ClassFile.FieldType.boolean), 1, 2, false),
  (⟨"IceSearch", "isStep", "(I)Z"⟩, am_c18, 1, (some Jvm.ClassFile.FieldType.boolean), 0, 1, true),
  (⟨"IceSearch", "set", "(II)Z"⟩, am_c19, 3, (some Jvm.ClassFile.FieldType.boolean), 0, 3, false),
  (⟨"IceSearch", "isHundredths", "(I)Z"⟩, am_c20, 1, (some Jvm.ClassFile.FieldType.boolean), 0, 1, true),
  (⟨"IceSearch", "ice", "(IIZ)I"⟩, am_c21, 4, (some Jvm.ClassFile.FieldType.int), 0, 4, false),
  (⟨"IceSearch", "isYear", "(I)Z"⟩, am_c22, 1, (some Jvm.ClassFile.FieldType.boolean), 0, 1, true),
  (⟨"IceSearch$Sea", "tellIce", "(IIZI)I"⟩, am_c23, 5, (some Jvm.ClassFile.FieldType.int), 1, 5, false),
  (⟨"IceSearch", "shut", "(III)I"⟩, am_c24, 4, (some Jvm.ClassFile.FieldType.int), 0, 4, false),
  (⟨"IceSearch", "isDay", "(I)Z"⟩, am_c25, 1, (some Jvm.ClassFile.FieldType.boolean), 0, 1, true),
  (⟨"IceSearch$Sea", "isShut", "(III)Z"⟩, am_c26, 5, (some Jvm.ClassFile.FieldType.boolean), 1, 4, false),
  (⟨"IceSearch", "teller", "(II)I"⟩, am_c27, 3, (some Jvm.ClassFile.FieldType.int), 0, 3, false)]
def am_MT2 : List (MethodName × ByteArray × Nat × Option FieldType × Nat × Nat × Bool) := [(⟨"IceSearch$Clues", "tellTeller", "(II)I"⟩, am_c28, 3, (some Jvm.ClassFile.FieldType.int), 3, 3, false),
  (⟨"IceSearch$Clues", "isTeller", "(I)Z"⟩, am_c29, 2, (some Jvm.ClassFile.FieldType.boolean), 3, 2, false),
  (⟨"IceSearch", "find", "(IIIIIII)I"⟩, am_c30, 10, (some Jvm.ClassFile.FieldType.int), 0, 8, false),
  (⟨"IceSearch$Clues", "isReach", "(II)Z"⟩, am_c31, 3, (some Jvm.ClassFile.FieldType.boolean), 3, 3, false),
  (⟨"IceSearch", "isFinder", "(I)Z"⟩, am_c32, 1, (some Jvm.ClassFile.FieldType.boolean), 0, 1, true),
  (⟨"IceSearch$Clues", "isFull", "()Z"⟩, am_c33, 1, (some Jvm.ClassFile.FieldType.boolean), 3, 1, false),
  (⟨"IceSearch$Clues", "write", "(III)V"⟩, am_c34, 4, none, 3, 4, false),
  (⟨"IceSearch$Clues", "trustThrough", "(I)I"⟩, am_c35, 5, (some Jvm.ClassFile.FieldType.int), 3, 2, false),
  (⟨"IceSearch", "hundredths", "(II)I"⟩, am_c36, 2, (some Jvm.ClassFile.FieldType.int), 0, 2, true),
  (⟨"IceSearch", "doubt", "(IZ)Z"⟩, am_c37, 3, (some Jvm.ClassFile.FieldType.boolean), 0, 3, false),
  (⟨"IceSearch$Clues", "isFind", "(I)Z"⟩, am_c38, 2, (some Jvm.ClassFile.FieldType.boolean), 3, 2, false),
  (⟨"IceSearch$Clues", "tellDoubt", "(IZI)Z"⟩, am_c39, 4, (some Jvm.ClassFile.FieldType.boolean), 3, 4, false),
  (⟨"IceSearch$Clues", "isDoubted", "(II)Z"⟩, am_c40, 4, (some Jvm.ClassFile.FieldType.boolean), 3, 3, false),
  (⟨"IceSearch", "found", "(II)I"⟩, am_c41, 3, (some Jvm.ClassFile.FieldType.int), 0, 3, false)]
def am_MT3 : List (MethodName × ByteArray × Nat × Option FieldType × Nat × Nat × Bool) := [(⟨"IceSearch$Clues", "fact", "(II)I"⟩, am_c42, 3, (some Jvm.ClassFile.FieldType.int), 3, 3, false),
  (⟨"IceSearch", "kept", "(II)I"⟩, am_c43, 3, (some Jvm.ClassFile.FieldType.int), 0, 3, false),
  (⟨"IceSearch$Clues", "readKept", "(II)V"⟩, am_c44, 4, none, 3, 3, false),
  (⟨"IceSearch$Clues", "isBelieved", "(II)Z"⟩, am_c45, 3, (some Jvm.ClassFile.FieldType.boolean), 3, 3, false),
  (⟨"IceSearch$Clues", "isNothing", "(I)Z"⟩, am_c46, 2, (some Jvm.ClassFile.FieldType.boolean), 3, 2, false),
  (⟨"IceSearch$Clues", "keep", "(I)V"⟩, am_c47, 2, none, 3, 2, false),
  (⟨"IceSearch$Clues", "keptFind", "(I)I"⟩, am_c48, 2, (some Jvm.ClassFile.FieldType.int), 3, 2, false),
  (⟨"IceSearch", "fits", "(I)I"⟩, am_c49, 2, (some Jvm.ClassFile.FieldType.int), 0, 2, false),
  (⟨"IceSearch", "countEnds", "(IIII)I"⟩, am_c50, 5, (some Jvm.ClassFile.FieldType.int), 0, 5, false),
  (⟨"IceSearch$Sea", "readIce", "(I)V"⟩, am_c51, 5, none, 1, 2, false),
  (⟨"java/util/Arrays", "fill", "([II)V"⟩, am_c52, 4, none, 15, 2, true),
  (⟨"IceSearch$Ways", "follow", "(IIII)V"⟩, am_c53, 7, none, 5, 5, false),
  (⟨"java/util/Arrays", "fill", "([JJ)V"⟩, am_c54, 5, none, 15, 2, true),
  (⟨"IceSearch$Ways", "spread", "(I)V"⟩, am_c55, 7, none, 5, 2, false)]
def am_MT4 : List (MethodName × ByteArray × Nat × Option FieldType × Nat × Nat × Bool) := [(⟨"IceSearch$Party", "walksOn", "(I)Z"⟩, am_c56, 2, (some Jvm.ClassFile.FieldType.boolean), 2, 2, false),
  (⟨"IceSearch$Sea", "readGoals", "(IZ[I)V"⟩, am_c57, 5, none, 1, 4, false),
  (⟨"IceSearch$Sea", "isOpen", "(II)Z"⟩, am_c58, 3, (some Jvm.ClassFile.FieldType.boolean), 1, 3, false),
  (⟨"IceSearch$Ways", "dropAllBut", "(I)V"⟩, am_c59, 3, none, 5, 2, false),
  (⟨"IceSearch$Ways", "drop", "(I)V"⟩, am_c60, 2, none, 5, 2, false),
  (⟨"IceSearch$Clues", "barredCell", "(II)I"⟩, am_c61, 3, (some Jvm.ClassFile.FieldType.int), 3, 3, false),
  (⟨"IceSearch$Clues", "isOnStep", "(II)Z"⟩, am_c62, 3, (some Jvm.ClassFile.FieldType.boolean), 3, 3, false),
  (⟨"IceSearch$Ways", "meet", "(II)V"⟩, am_c63, 5, none, 5, 3, false),
  (⟨"IceSearch$Clues", "isNear", "(II)Z"⟩, am_c64, 3, (some Jvm.ClassFile.FieldType.boolean), 3, 3, false),
  (⟨"IceSearch", "far", "(II)I"⟩, am_c65, 2, (some Jvm.ClassFile.FieldType.int), 0, 2, true),
  (⟨"java/lang/Math", "abs", "(I)I"⟩, am_c66, 1, (some Jvm.ClassFile.FieldType.int), 16, 1, true),
  (⟨"java/lang/Math", "max", "(II)I"⟩, am_c67, 2, (some Jvm.ClassFile.FieldType.int), 16, 2, true),
  (⟨"IceSearch$Ways", "withFind", "(JI)J"⟩, am_c68, 6, (some Jvm.ClassFile.FieldType.long), 5, 3, false),
  (⟨"IceSearch$Ways", "countFull", "()I"⟩, am_c69, 4, (some Jvm.ClassFile.FieldType.int), 5, 1, false)]
def am_MT5 : List (MethodName × ByteArray × Nat × Option FieldType × Nat × Nat × Bool) := [(⟨"IceSearch", "most", "(II)I"⟩, am_c70, 4, (some Jvm.ClassFile.FieldType.int), 0, 3, false),
  (⟨"IceSearch$Ways", "mostMet", "()I"⟩, am_c71, 5, (some Jvm.ClassFile.FieldType.int), 5, 1, false),
  (⟨"java/lang/Integer", "bitCount", "(I)I"⟩, am_c72, 1, (some Jvm.ClassFile.FieldType.int), 17, 1, true),
  (⟨"IceSearch", "at", "(III)I"⟩, am_c73, 4, (some Jvm.ClassFile.FieldType.int), 0, 4, false),
  (⟨"IceSearch", "isStepOfWays", "(I)Z"⟩, am_c74, 2, (some Jvm.ClassFile.FieldType.boolean), 0, 2, false),
  (⟨"IceSearch", "sure", "(II)I"⟩, am_c75, 3, (some Jvm.ClassFile.FieldType.int), 0, 3, false),
  (⟨"IceSearch", "ends", "(I)I"⟩, am_c76, 2, (some Jvm.ClassFile.FieldType.int), 0, 2, false),
  (⟨"IceSearch", "move", "(I)I"⟩, am_c77, 2, (some Jvm.ClassFile.FieldType.int), 0, 2, false),
  (⟨"IceSearch$Row", "add", "(I)I"⟩, am_c78, 2, (some Jvm.ClassFile.FieldType.int), 4, 2, false),
  (⟨"IceSearch", "clear", "()I"⟩, am_c79, 1, (some Jvm.ClassFile.FieldType.int), 0, 1, false),
  (⟨"IceSearch$Row", "empty", "()I"⟩, am_c80, 2, (some Jvm.ClassFile.FieldType.int), 4, 1, false),
  (⟨"IceSearch", "judge", "(I)I"⟩, am_c81, 2, (some Jvm.ClassFile.FieldType.int), 0, 2, false),
  (⟨"IceSearch$Row", "firstAgainst", "()I"⟩, am_c82, 4, (some Jvm.ClassFile.FieldType.int), 4, 1, false),
  (⟨"IceSearch$Row", "firstWrongStep", "()I"⟩, am_c83, 3, (some Jvm.ClassFile.FieldType.int), 4, 1, false)]
def am_MT6 : List (MethodName × ByteArray × Nat × Option FieldType × Nat × Nat × Bool) := [(⟨"IceSearch$Row", "cellAfter", "(III)I"⟩, am_c84, 5, (some Jvm.ClassFile.FieldType.int), 4, 4, false),
  (⟨"IceSearch", "nextCell", "(II)I"⟩, am_c85, 4, (some Jvm.ClassFile.FieldType.int), 0, 2, true),
  (⟨"IceSearch$Clues", "isBarred", "(II)Z"⟩, am_c86, 4, (some Jvm.ClassFile.FieldType.boolean), 3, 3, false),
  (⟨"IceSearch$Row", "doesMeet", "(I)Z"⟩, am_c87, 3, (some Jvm.ClassFile.FieldType.boolean), 4, 2, false),
  (⟨"IceSearch", "alive", "(I)I"⟩, am_c88, 3, (some Jvm.ClassFile.FieldType.int), 0, 2, false),
  (⟨"IceSearch$Voyage", "embark", "()V"⟩, am_c89, 1, none, 8, 1, false),
  (⟨"IceSearch$Voyage", "eat", "()V"⟩, am_c90, 1, none, 8, 1, false),
  (⟨"IceSearch", "chance", "(III)I"⟩, am_c91, 4, (some Jvm.ClassFile.FieldType.int), 0, 4, false),
  (⟨"IceSearch$Masses", "massAt", "(IIII)I"⟩, am_c92, 5, (some Jvm.ClassFile.FieldType.int), 6, 5, false),
  (⟨"IceSearch$Masses", "follow", "(III)V"⟩, am_c93, 6, none, 6, 4, false),
  (⟨"IceSearch$Masses", "part", "(I)V"⟩, am_c94, 4, none, 6, 2, false),
  (⟨"IceSearch$Masses", "sumAround", "([I)V"⟩, am_c95, 5, none, 6, 2, false),
  (⟨"IceSearch$Masses", "lessen", "(II)V"⟩, am_c96, 4, none, 6, 3, false),
  (⟨"IceSearch$Masses", "lessenCell", "(II)V"⟩, am_c97, 3, none, 6, 3, false)]
def am_MT7 : List (MethodName × ByteArray × Nat × Option FieldType × Nat × Nat × Bool) := [(⟨"IceSearch", "left", "(II)I"⟩, am_c98, 3, (some Jvm.ClassFile.FieldType.int), 0, 3, false),
  (⟨"IceSearch$Masses", "all", "()I"⟩, am_c99, 3, (some Jvm.ClassFile.FieldType.int), 6, 1, false),
  (⟨"IceSearch", "lead", "(IIII)I"⟩, am_c100, 5, (some Jvm.ClassFile.FieldType.int), 0, 5, false),
  (⟨"IceSearch", "ship", "(III)I"⟩, am_c101, 4, (some Jvm.ClassFile.FieldType.int), 0, 4, false),
  (⟨"IceSearch$Fleet", "add", "(III)I"⟩, am_c102, 5, (some Jvm.ClassFile.FieldType.int), 7, 4, false),
  (⟨"IceSearch", "trip", "(II)I"⟩, am_c103, 3, (some Jvm.ClassFile.FieldType.int), 0, 3, false),
  (⟨"IceSearch$Fleet", "isShip", "(I)Z"⟩, am_c104, 2, (some Jvm.ClassFile.FieldType.boolean), 7, 2, false),
  (⟨"IceSearch$Fleet", "movesTo", "(III)I"⟩, am_c105, 4, (some Jvm.ClassFile.FieldType.int), 7, 4, false),
  (⟨"IceSearch$Fleet", "sail", "(II)V"⟩, am_c106, 6, none, 7, 3, false),
  (⟨"IceSearch$Fleet", "sailOn", "(III)I"⟩, am_c107, 8, (some Jvm.ClassFile.FieldType.int), 7, 4, false),
  (⟨"IceSearch", "best", "(I)I"⟩, am_c108, 3, (some Jvm.ClassFile.FieldType.int), 0, 2, false),
  (⟨"IceSearch$Fleet", "choose", "([II)V"⟩, am_c109, 6, none, 7, 3, false),
  (⟨"IceSearch$Fleet", "readTops", "(I[I)V"⟩, am_c110, 4, none, 7, 3, false),
  (⟨"IceSearch$Fleet", "putTop", "(III)V"⟩, am_c111, 7, none, 7, 4, false)]
def am_MT8 : List (MethodName × ByteArray × Nat × Option FieldType × Nat × Nat × Bool) := [(⟨"java/lang/Math", "min", "(II)I"⟩, am_c112, 2, (some Jvm.ClassFile.FieldType.int), 16, 2, true),
  (⟨"IceSearch$Fleet", "sumOf", "(I)I"⟩, am_c113, 6, (some Jvm.ClassFile.FieldType.int), 7, 2, false),
  (⟨"IceSearch$Fleet", "isTaken", "(II)Z"⟩, am_c114, 4, (some Jvm.ClassFile.FieldType.boolean), 7, 3, false),
  (⟨"IceSearch$Fleet", "isRowLess", "()Z"⟩, am_c115, 2, (some Jvm.ClassFile.FieldType.boolean), 7, 1, false),
  (⟨"IceSearch$Fleet", "bestCell", "(I)I"⟩, am_c116, 2, (some Jvm.ClassFile.FieldType.int), 7, 2, false),
  (⟨"IceSearch", "feed", "(IIIII)I"⟩, am_c117, 6, (some Jvm.ClassFile.FieldType.int), 0, 6, false),
  (⟨"IceSearch$Tape", "hasRoom", "()Z"⟩, am_c118, 1, (some Jvm.ClassFile.FieldType.boolean), 9, 1, false),
  (⟨"IceSearch$Tape", "put", "(I)V"⟩, am_c119, 3, none, 9, 2, false),
  (⟨"IceSearch", "rules", "(I)I"⟩, am_c120, 3, (some Jvm.ClassFile.FieldType.int), 0, 2, false),
  (⟨"IceSearch$Tape", "hasFed", "(I)Z"⟩, am_c121, 2, (some Jvm.ClassFile.FieldType.boolean), 9, 2, false),
  (⟨"IceSearch$Reader", "take", "(II)LIceSearch$Rules;"⟩, am_c122, 5, (some (Jvm.ClassFile.FieldType.object "IceSearch$Rules")), 10, 3, false),
  (⟨"IceSearch$Tape", "scan", "(I)V"⟩, am_c123, 5, none, 9, 2, false),
  (⟨"IceSearch$Tape", "endOfRun", "(II)I"⟩, am_c124, 5, (some Jvm.ClassFile.FieldType.int), 9, 3, false),
  (⟨"IceSearch$Tape", "isLetter", "(B)Z"⟩, am_c125, 1, (some Jvm.ClassFile.FieldType.boolean), 9, 1, true)]
def am_MT9 : List (MethodName × ByteArray × Nat × Option FieldType × Nat × Nat × Bool) := [(⟨"IceSearch$Tape", "isDigit", "(B)Z"⟩, am_c126, 1, (some Jvm.ClassFile.FieldType.boolean), 9, 1, true),
  (⟨"IceSearch$Tape", "isBlank", "(B)Z"⟩, am_c127, 1, (some Jvm.ClassFile.FieldType.boolean), 9, 1, true),
  (⟨"IceSearch$Tape", "tokenOf", "(II)I"⟩, am_c128, 4, (some Jvm.ClassFile.FieldType.int), 9, 3, false),
  (⟨"IceSearch$Tape", "wordOf", "(II)I"⟩, am_c129, 6, (some Jvm.ClassFile.FieldType.int), 9, 3, false),
  (⟨"java/lang/String", "length", "()I"⟩, am_c130, 1, (some Jvm.ClassFile.FieldType.int), 13, 1, false),
  (⟨"java/lang/String", "coder", "()B"⟩, am_c131, 1, (some Jvm.ClassFile.FieldType.byte), 13, 1, false),
  (⟨"java/lang/String", "charAt", "(I)C"⟩, am_c132, 2, (some Jvm.ClassFile.FieldType.char), 13, 2, false),
  (⟨"java/lang/String", "isLatin1", "()Z"⟩, am_c133, 1, (some Jvm.ClassFile.FieldType.boolean), 13, 1, false),
  (⟨"java/lang/StringLatin1", "charAt", "([BI)C"⟩, am_c134, 2, (some Jvm.ClassFile.FieldType.char), 19, 2, true),
  (⟨"java/lang/String", "checkIndex", "(II)V"⟩, am_c135, 2, none, 13, 2, true),
  (⟨"jdk/internal/util/Preconditions", "checkIndex", "(IILjava/util/function/BiFunction;)I"⟩, am_c136, 3, (some Jvm.ClassFile.FieldType.int), 20, 3, true),
  (⟨"IceSearch$Tape", "isSpelt", "(III)Z"⟩, am_c137, 5, (some Jvm.ClassFile.FieldType.boolean), 9, 4, false),
  (⟨"IceSearch$Tape", "numberOf", "(II)I"⟩, am_c138, 5, (some Jvm.ClassFile.FieldType.int), 9, 3, false),
  (⟨"java/lang/String", "indexOf", "(I)I"⟩, am_c139, 2, (some Jvm.ClassFile.FieldType.int), 13, 2, false)]
def am_MT10 : List (MethodName × ByteArray × Nat × Option FieldType × Nat × Nat × Bool) := [(⟨"java/lang/String", "indexOf", "(II)I"⟩, am_c140, 3, (some Jvm.ClassFile.FieldType.int), 13, 3, false),
  (⟨"java/lang/StringLatin1", "indexOf", "([BIII)I"⟩, am_c141, 4, (some Jvm.ClassFile.FieldType.int), 19, 4, true),
  (⟨"java/lang/StringLatin1", "canEncode", "(I)Z"⟩, am_c142, 1, (some Jvm.ClassFile.FieldType.boolean), 19, 1, true),
  (⟨"java/lang/StringLatin1", "indexOfChar", "([BIII)I"⟩, am_c143, 6, (some Jvm.ClassFile.FieldType.int), 19, 4, true),
  (⟨"IceSearch$Tape", "addToken", "(II)V"⟩, am_c144, 3, none, 9, 3, false),
  (⟨"IceSearch$Tape", "tokenAt", "(I)I"⟩, am_c145, 2, (some Jvm.ClassFile.FieldType.int), 9, 2, false),
  (⟨"IceSearch$Reader", "readLine", "()Z"⟩, am_c146, 2, (some Jvm.ClassFile.FieldType.boolean), 10, 1, false),
  (⟨"IceSearch$Reader", "readRule", "(I)Z"⟩, am_c147, 4, (some Jvm.ClassFile.FieldType.boolean), 10, 2, false),
  (⟨"IceSearch$Reader", "skip", "(II)Z"⟩, am_c148, 3, (some Jvm.ClassFile.FieldType.boolean), 10, 3, false),
  (⟨"IceSearch$Reader", "readAny", "(I)Z"⟩, am_c149, 3, (some Jvm.ClassFile.FieldType.boolean), 10, 2, false),
  (⟨"IceSearch$Reader", "readAll", "(I)Z"⟩, am_c150, 3, (some Jvm.ClassFile.FieldType.boolean), 10, 2, false),
  (⟨"IceSearch$Reader", "readOne", "(I)Z"⟩, am_c151, 2, (some Jvm.ClassFile.FieldType.boolean), 10, 2, false),
  (⟨"IceSearch$Reader", "readComparison", "()Z"⟩, am_c152, 4, (some Jvm.ClassFile.FieldType.boolean), 10, 1, false),
  (⟨"IceSearch$Reader", "putCode", "(I)V"⟩, am_c153, 2, none, 10, 2, false)]
def am_MT11 : List (MethodName × ByteArray × Nat × Option FieldType × Nat × Nat × Bool) := [(⟨"IceSearch$Tape", "placeOf", "(I)I"⟩, am_c154, 2, (some Jvm.ClassFile.FieldType.int), 9, 2, false),
  (⟨"java/util/Arrays", "copyOf", "([II)[I"⟩, am_c155, 3, (some (Jvm.ClassFile.FieldType.array Jvm.ClassFile.FieldType.int)), 15, 2, true),
  (⟨"IceSearch", "beside", "(I)I"⟩, am_c156, 2, (some Jvm.ClassFile.FieldType.int), 0, 2, false),
  (⟨"IceSearch", "fault", "()I"⟩, am_c157, 1, (some Jvm.ClassFile.FieldType.int), 0, 1, false),
  (⟨"IceSearch", "home", "(IZ)Z"⟩, am_c158, 3, (some Jvm.ClassFile.FieldType.boolean), 0, 3, false),
  (⟨"IceSearch$Sea", "tellHome", "(IZ)V"⟩, am_c159, 3, none, 1, 3, false),
  (⟨"IceSearch", "would", "(II)I"⟩, am_c160, 4, (some Jvm.ClassFile.FieldType.int), 0, 3, false),
  (⟨"IceSearch", "isAskedOfVoyage", "(I)Z"⟩, am_c161, 1, (some Jvm.ClassFile.FieldType.boolean), 0, 1, true),
  (⟨"IceSearch", "rulesBy", "(I)LIceSearch$Rules;"⟩, am_c162, 4, (some (Jvm.ClassFile.FieldType.object "IceSearch$Rules")), 0, 2, false),
  (⟨"IceSearch$Voyage", "sail", "(LIceSearch$Rules;I)V"⟩, am_c163, 4, none, 8, 3, false),
  (⟨"IceSearch$Voyage", "arrive", "(I)V"⟩, am_c164, 2, none, 8, 2, false),
  (⟨"IceSearch$Sea", "isHomeCell", "(I)Z"⟩, am_c165, 2, (some Jvm.ClassFile.FieldType.boolean), 1, 2, false),
  (⟨"IceSearch$Voyage", "obey", "(LIceSearch$Rules;I)V"⟩, am_c166, 5, none, 8, 3, false),
  (⟨"IceSearch$Voyage", "readAsked", "(I)V"⟩, am_c167, 3, none, 8, 2, false)]
def am_MT12 : List (MethodName × ByteArray × Nat × Option FieldType × Nat × Nat × Bool) := [(⟨"IceSearch", "cellTowards", "(II)I"⟩, am_c168, 2, (some Jvm.ClassFile.FieldType.int), 0, 2, true),
  (⟨"IceSearch$Rules", "firstOrder", "([I)I"⟩, am_c169, 3, (some Jvm.ClassFile.FieldType.int), 11, 2, false),
  (⟨"IceSearch$Rules", "isPay", "(I)Z"⟩, am_c170, 2, (some Jvm.ClassFile.FieldType.boolean), 11, 2, false),
  (⟨"IceSearch$Rules", "part", "(II)I"⟩, am_c171, 4, (some Jvm.ClassFile.FieldType.int), 11, 3, false),
  (⟨"IceSearch$Rules", "holds", "(I[I)Z"⟩, am_c172, 7, (some Jvm.ClassFile.FieldType.boolean), 11, 3, false),
  (⟨"IceSearch$Rules", "hasCondition", "(I)Z"⟩, am_c173, 2, (some Jvm.ClassFile.FieldType.boolean), 11, 2, false),
  (⟨"IceSearch$Rules", "isTrue", "(I[I)Z"⟩, am_c174, 6, (some Jvm.ClassFile.FieldType.boolean), 11, 3, false),
  (⟨"IceSearch$Voyage", "cellOn", "(I)I"⟩, am_c175, 2, (some Jvm.ClassFile.FieldType.int), 8, 2, false),
  (⟨"IceSearch$Voyage", "answer", "(I)I"⟩, am_c176, 2, (some Jvm.ClassFile.FieldType.int), 8, 2, false),
  (⟨"IceSearch", "tried", "(II)I"⟩, am_c177, 3, (some Jvm.ClassFile.FieldType.int), 0, 3, false),
  (⟨"IceSearch", "quarrel", "(II)I"⟩, am_c178, 5, (some Jvm.ClassFile.FieldType.int), 0, 3, false),
  (⟨"IceSearch$Rules", "firstQuarrel", "()I"⟩, am_c179, 2, (some Jvm.ClassFile.FieldType.int), 11, 1, false),
  (⟨"IceSearch$Rules", "rival", "(I)I"⟩, am_c180, 3, (some Jvm.ClassFile.FieldType.int), 11, 2, false),
  (⟨"IceSearch", "paid", "(II)I"⟩, am_c181, 6, (some Jvm.ClassFile.FieldType.int), 0, 3, false)]
def am_MT13 : List (MethodName × ByteArray × Nat × Option FieldType × Nat × Nat × Bool) := [(⟨"IceSearch", "payFor", "(ILIceSearch$Rules;)I"⟩, am_c182, 4, (some Jvm.ClassFile.FieldType.int), 0, 3, false),
  (⟨"IceSearch$Clues", "isFirstAtCell", "(I)Z"⟩, am_c183, 3, (some Jvm.ClassFile.FieldType.boolean), 3, 2, false),
  (⟨"IceSearch$Rules", "payOf", "(I[I)I"⟩, am_c184, 4, (some Jvm.ClassFile.FieldType.int), 11, 3, false),
  (⟨"IceSearch", "count", "(I)I"⟩, am_c185, 2, (some Jvm.ClassFile.FieldType.int), 0, 2, false),
  (⟨"IceSearch$Clues", "countDoubted", "(I)I"⟩, am_c186, 4, (some Jvm.ClassFile.FieldType.int), 3, 2, false),
  (⟨"IceSearchModel", "<init>", "()V"⟩, am_c187, 1, none, 12, 1, false),
  (⟨"IceSearchModel", "day", "(I)Z"⟩, am_c188, 2, (some Jvm.ClassFile.FieldType.boolean), 12, 2, false),
  (⟨"IceSearchModel", "land", "(IZ)Z"⟩, am_c189, 3, (some Jvm.ClassFile.FieldType.boolean), 12, 3, false),
  (⟨"IceSearchModel", "isCell", "(I)Z"⟩, am_c190, 1, (some Jvm.ClassFile.FieldType.boolean), 12, 1, true),
  (⟨"IceSearchModel", "isIn", "(III)Z"⟩, am_c191, 3, (some Jvm.ClassFile.FieldType.boolean), 12, 3, true),
  (⟨"IceSearchModel", "lost", "(IIII)Z"⟩, am_c192, 5, (some Jvm.ClassFile.FieldType.boolean), 12, 5, false),
  (⟨"IceSearchModel", "set", "(II)Z"⟩, am_c193, 3, (some Jvm.ClassFile.FieldType.boolean), 12, 3, false),
  (⟨"IceSearchModel", "home", "(IZ)Z"⟩, am_c194, 3, (some Jvm.ClassFile.FieldType.boolean), 12, 3, false),
  (⟨"IceSearchModel", "ice", "(IIZ)I"⟩, am_c195, 4, (some Jvm.ClassFile.FieldType.int), 12, 4, false)]
def am_MT14 : List (MethodName × ByteArray × Nat × Option FieldType × Nat × Nat × Bool) := [(⟨"IceSearchModel", "shut", "(III)I"⟩, am_c196, 4, (some Jvm.ClassFile.FieldType.int), 12, 4, false),
  (⟨"IceSearchModel", "isDay", "(I)Z"⟩, am_c197, 1, (some Jvm.ClassFile.FieldType.boolean), 12, 1, true),
  (⟨"IceSearchModel", "freezes", "(I)V"⟩, am_c198, 3, none, 12, 2, false),
  (⟨"IceSearchModel", "one", "(Z)I"⟩, am_c199, 1, (some Jvm.ClassFile.FieldType.int), 12, 1, true),
  (⟨"IceSearchModel", "teller", "(II)I"⟩, am_c200, 3, (some Jvm.ClassFile.FieldType.int), 12, 3, false),
  (⟨"IceSearchModel", "find", "(IIIIIII)I"⟩, am_c201, 8, (some Jvm.ClassFile.FieldType.int), 12, 8, false),
  (⟨"IceSearchModel", "isReach", "(II)Z"⟩, am_c202, 2, (some Jvm.ClassFile.FieldType.boolean), 12, 2, true),
  (⟨"IceSearchModel", "doubt", "(IZ)Z"⟩, am_c203, 3, (some Jvm.ClassFile.FieldType.boolean), 12, 3, false),
  (⟨"IceSearchModel", "isDoubted", "(II)Z"⟩, am_c204, 5, (some Jvm.ClassFile.FieldType.boolean), 12, 3, false),
  (⟨"IceSearchModel", "found", "(II)I"⟩, am_c205, 3, (some Jvm.ClassFile.FieldType.int), 12, 3, false),
  (⟨"IceSearchModel", "trustOf", "(I)I"⟩, am_c206, 4, (some Jvm.ClassFile.FieldType.int), 12, 2, false),
  (⟨"IceSearchModel", "kept", "(II)I"⟩, am_c207, 3, (some Jvm.ClassFile.FieldType.int), 12, 3, false),
  (⟨"IceSearchModel", "keeps", "(I)V"⟩, am_c208, 3, none, 12, 2, false),
  (⟨"IceSearchModel", "holds", "(II)Z"⟩, am_c209, 3, (some Jvm.ClassFile.FieldType.boolean), 12, 3, false)]
def am_MT15 : List (MethodName × ByteArray × Nat × Option FieldType × Nat × Nat × Bool) := [(⟨"IceSearchModel", "fits", "(I)I"⟩, am_c210, 2, (some Jvm.ClassFile.FieldType.int), 12, 2, false),
  (⟨"IceSearchModel", "goes", "(IIIZ)V"⟩, am_c211, 10, none, 12, 5, false),
  (⟨"IceSearchModel", "mayCome", "(II)Z"⟩, am_c212, 3, (some Jvm.ClassFile.FieldType.boolean), 12, 3, false),
  (⟨"IceSearchModel", "isOpenSea", "(II)Z"⟩, am_c213, 3, (some Jvm.ClassFile.FieldType.boolean), 12, 3, false),
  (⟨"IceSearchModel", "next", "(II)I"⟩, am_c214, 4, (some Jvm.ClassFile.FieldType.int), 12, 2, true),
  (⟨"IceSearchModel", "isBarred", "(II)Z"⟩, am_c215, 5, (some Jvm.ClassFile.FieldType.boolean), 12, 3, false),
  (⟨"IceSearchModel", "meets", "(JII)J"⟩, am_c216, 8, (some Jvm.ClassFile.FieldType.long), 12, 4, false),
  (⟨"IceSearchModel", "isMet", "(III)Z"⟩, am_c217, 4, (some Jvm.ClassFile.FieldType.boolean), 12, 4, false),
  (⟨"IceSearchModel", "far", "(II)I"⟩, am_c218, 2, (some Jvm.ClassFile.FieldType.int), 12, 2, true),
  (⟨"IceSearchModel", "isAny", "()Z"⟩, am_c219, 3, (some Jvm.ClassFile.FieldType.boolean), 12, 1, false),
  (⟨"IceSearchModel", "hasAll", "(I)Z"⟩, am_c220, 2, (some Jvm.ClassFile.FieldType.boolean), 12, 2, false),
  (⟨"IceSearchModel", "most", "(II)I"⟩, am_c221, 7, (some Jvm.ClassFile.FieldType.int), 12, 3, false),
  (⟨"IceSearchModel", "bits", "(I)I"⟩, am_c222, 3, (some Jvm.ClassFile.FieldType.int), 12, 1, true),
  (⟨"IceSearchModel", "at", "(III)I"⟩, am_c223, 4, (some Jvm.ClassFile.FieldType.int), 12, 4, false)]
def am_MT16 : List (MethodName × ByteArray × Nat × Option FieldType × Nat × Nat × Bool) := [(⟨"IceSearchModel", "sure", "(II)I"⟩, am_c224, 4, (some Jvm.ClassFile.FieldType.int), 12, 3, false),
  (⟨"IceSearchModel", "ends", "(I)I"⟩, am_c225, 4, (some Jvm.ClassFile.FieldType.int), 12, 2, false),
  (⟨"IceSearchModel", "move", "(I)I"⟩, am_c226, 2, (some Jvm.ClassFile.FieldType.int), 12, 2, false),
  (⟨"IceSearchModel", "clear", "()I"⟩, am_c227, 2, (some Jvm.ClassFile.FieldType.int), 12, 1, false),
  (⟨"IceSearchModel", "judge", "(I)I"⟩, am_c228, 7, (some Jvm.ClassFile.FieldType.int), 12, 2, false),
  (⟨"IceSearchModel", "alive", "(I)I"⟩, am_c229, 3, (some Jvm.ClassFile.FieldType.int), 12, 2, false),
  (⟨"IceSearchModel", "eats", "()V"⟩, am_c230, 1, none, 12, 1, false),
  (⟨"IceSearchModel", "chance", "(III)I"⟩, am_c231, 4, (some Jvm.ClassFile.FieldType.int), 12, 4, false),
  (⟨"IceSearchModel", "drifts", "(III)V"⟩, am_c232, 6, none, 12, 4, false),
  (⟨"IceSearchModel", "parts", "(II)V"⟩, am_c233, 7, none, 12, 3, false),
  (⟨"IceSearchModel", "acts", "(II)V"⟩, am_c234, 4, none, 12, 3, false),
  (⟨"IceSearchModel", "left", "(II)I"⟩, am_c235, 6, (some Jvm.ClassFile.FieldType.int), 12, 3, false),
  (⟨"IceSearchModel", "lead", "(IIII)I"⟩, am_c236, 7, (some Jvm.ClassFile.FieldType.int), 12, 5, false),
  (⟨"IceSearchModel", "ship", "(III)I"⟩, am_c237, 4, (some Jvm.ClassFile.FieldType.int), 12, 4, false)]
def am_MT17 : List (MethodName × ByteArray × Nat × Option FieldType × Nat × Nat × Bool) := [(⟨"IceSearchModel", "trip", "(II)I"⟩, am_c238, 3, (some Jvm.ClassFile.FieldType.int), 12, 3, false),
  (⟨"IceSearchModel", "sails", "(I)V"⟩, am_c239, 7, none, 12, 2, false),
  (⟨"IceSearchModel", "best", "(I)I"⟩, am_c240, 3, (some Jvm.ClassFile.FieldType.int), 12, 2, false),
  (⟨"IceSearchModel", "bests", "(I)V"⟩, am_c241, 7, none, 12, 2, false),
  (⟨"IceSearchModel", "finds", "(II)J"⟩, am_c242, 3, (some Jvm.ClassFile.FieldType.long), 12, 3, false),
  (⟨"IceSearchModel", "rows", "(IJ)V"⟩, am_c243, 8, none, 12, 3, false),
  (⟨"IceSearchModel", "isLess", "()Z"⟩, am_c244, 2, (some Jvm.ClassFile.FieldType.boolean), 12, 1, false),
  (⟨"IceSearchModel", "feed", "(IIIII)I"⟩, am_c245, 6, (some Jvm.ClassFile.FieldType.int), 12, 6, false),
  (⟨"IceSearchModel", "four", "(I)V"⟩, am_c246, 3, none, 12, 2, false),
  (⟨"IceSearchModel", "rules", "(I)I"⟩, am_c247, 2, (some Jvm.ClassFile.FieldType.int), 12, 2, false),
  (⟨"IceSearchModel", "reads", "(I)Z"⟩, am_c248, 3, (some Jvm.ClassFile.FieldType.boolean), 12, 2, false),
  (⟨"IceSearchModel", "blanks", "()V"⟩, am_c249, 1, none, 12, 1, false),
  (⟨"IceSearchModel", "statement", "(I)Z"⟩, am_c250, 2, (some Jvm.ClassFile.FieldType.boolean), 12, 2, false),
  (⟨"IceSearchModel", "rule", "(I)Z"⟩, am_c251, 2, (some Jvm.ClassFile.FieldType.boolean), 12, 2, false)]
def am_MT18 : List (MethodName × ByteArray × Nat × Option FieldType × Nat × Nat × Bool) := [(⟨"IceSearchModel", "takes", "(J)Z"⟩, am_c252, 3, (some Jvm.ClassFile.FieldType.boolean), 12, 2, false),
  (⟨"IceSearchModel", "word", "()J"⟩, am_c253, 3, (some Jvm.ClassFile.FieldType.long), 12, 1, false),
  (⟨"IceSearchModel", "way", "(II)Z"⟩, am_c254, 3, (some Jvm.ClassFile.FieldType.boolean), 12, 3, false),
  (⟨"IceSearchModel", "pay", "(I)Z"⟩, am_c255, 2, (some Jvm.ClassFile.FieldType.boolean), 12, 2, false),
  (⟨"IceSearchModel", "takesNumber", "()Z"⟩, am_c256, 2, (some Jvm.ClassFile.FieldType.boolean), 12, 1, false),
  (⟨"IceSearchModel", "any", "()I"⟩, am_c257, 4, (some Jvm.ClassFile.FieldType.int), 12, 1, false),
  (⟨"IceSearchModel", "node", "(I)I"⟩, am_c258, 3, (some Jvm.ClassFile.FieldType.int), 12, 2, false),
  (⟨"IceSearchModel", "all", "()I"⟩, am_c259, 4, (some Jvm.ClassFile.FieldType.int), 12, 1, false),
  (⟨"IceSearchModel", "single", "()I"⟩, am_c260, 3, (some Jvm.ClassFile.FieldType.int), 12, 1, false),
  (⟨"IceSearchModel", "takesSign", "(I)Z"⟩, am_c261, 2, (some Jvm.ClassFile.FieldType.boolean), 12, 2, false),
  (⟨"IceSearchModel", "asked", "(J)I"⟩, am_c262, 3, (some Jvm.ClassFile.FieldType.int), 12, 1, true),
  (⟨"IceSearchModel", "becomes", "(I)V"⟩, am_c263, 6, none, 12, 2, false),
  (⟨"IceSearchModel", "beside", "(I)I"⟩, am_c264, 2, (some Jvm.ClassFile.FieldType.int), 12, 2, false),
  (⟨"IceSearchModel", "fault", "()I"⟩, am_c265, 1, (some Jvm.ClassFile.FieldType.int), 12, 1, false)]
def am_MT19 : List (MethodName × ByteArray × Nat × Option FieldType × Nat × Nat × Bool) := [(⟨"IceSearchModel", "quarrel", "(II)I"⟩, am_c266, 8, (some Jvm.ClassFile.FieldType.int), 12, 3, false),
  (⟨"IceSearchModel", "inForce", "(I)I"⟩, am_c267, 4, (some Jvm.ClassFile.FieldType.int), 12, 2, false),
  (⟨"IceSearchModel", "would", "(II)I"⟩, am_c268, 3, (some Jvm.ClassFile.FieldType.int), 12, 3, false),
  (⟨"IceSearchModel", "follows", "(II)V"⟩, am_c269, 4, none, 12, 3, false),
  (⟨"IceSearchModel", "does", "(II)V"⟩, am_c270, 6, none, 12, 3, false),
  (⟨"IceSearchModel", "openTo", "(II)I"⟩, am_c271, 4, (some Jvm.ClassFile.FieldType.int), 12, 3, false),
  (⟨"IceSearchModel", "firstOf", "(IZI)I"⟩, am_c272, 6, (some Jvm.ClassFile.FieldType.int), 12, 4, false),
  (⟨"IceSearchModel", "asks", "(I)Z"⟩, am_c273, 3, (some Jvm.ClassFile.FieldType.boolean), 12, 2, false),
  (⟨"IceSearchModel", "outcome", "(I)I"⟩, am_c274, 2, (some Jvm.ClassFile.FieldType.int), 12, 2, false),
  (⟨"IceSearchModel", "tried", "(II)I"⟩, am_c275, 3, (some Jvm.ClassFile.FieldType.int), 12, 3, false),
  (⟨"IceSearchModel", "paid", "(II)I"⟩, am_c276, 5, (some Jvm.ClassFile.FieldType.int), 12, 3, false),
  (⟨"IceSearchModel", "payOf", "(II)I"⟩, am_c277, 4, (some Jvm.ClassFile.FieldType.int), 12, 3, false),
  (⟨"IceSearchModel", "count", "(I)I"⟩, am_c278, 4, (some Jvm.ClassFile.FieldType.int), 12, 2, false),
  (⟨"IceSearchLaw", "law", "([I)Z"⟩, am_c279, 4, (some Jvm.ClassFile.FieldType.boolean), 14, 1, true)]
def am_MTT : List (List (MethodName × ByteArray × Nat × Option FieldType × Nat × Nat × Bool)) := [am_MT0, am_MT1, am_MT2, am_MT3, am_MT4, am_MT5, am_MT6, am_MT7, am_MT8, am_MT9, am_MT10, am_MT11, am_MT12, am_MT13, am_MT14, am_MT15, am_MT16, am_MT17, am_MT18, am_MT19]
def am_mt (z : Nat) : MethodName × ByteArray × Nat × Option FieldType × Nat × Nat × Bool := (am_MTT.getD (z / 14) []).getD (z % 14) (⟨"", "", ""⟩, am_c0, 0, none, 0, 0, false)
def am_NM : Nat := 280
def am_yn (z : Nat) : MethodName := (am_mt z).1
def am_by (z : Nat) : ByteArray := (am_mt z).2.1
def am_ml (z : Nat) : Nat := (am_mt z).2.2.1
def am_rt (z : Nat) : Option FieldType := (am_mt z).2.2.2.1
def am_own (z : Nat) : Nat := (am_mt z).2.2.2.2.1
def am_na (z : Nat) : Nat := (am_mt z).2.2.2.2.2.1
def am_stc (z : Nat) : Bool := (am_mt z).2.2.2.2.2.2
/-- IceSearch.<init>()V -/
def am_b0 : List (Nat × List Instr) := [(0, [.aload 0, .monitorenter, .aload 0, .new 1, .dup, .invokespecial 1, .putfield 0, .aload 0, .new 2, .dup, .invokespecial 2, .putfield 1, .aload 0, .new 3, .dup, .invokespecial 3, .putfield 2, .aload 0, .new 4, .dup, .aload 0, .getfield 0, .aload 0, .getfield 1, .aload 0, .getfield 2, .invokespecial 4, .putfield 3, .aload 0, .new 5, .dup, .aload 0, .getfield 0, .aload 0, .getfield 1, .aload 0, .getfield 2, .invokespecial 5, .putfield 4, .aload 0, .new 6, .dup, .aload 0, .getfield 0, .aload 0, .getfield 1, .aload 0, .getfield 2, .invokespecial 6, .putfield 5, .aload 0, .new 7, .dup, .aload 0, .getfield 0, .invokespecial 7, .putfield 6, .aload 0, .new 8, .dup, .aload 0, .getfield 0, .aload 0, .getfield 1, .invokespecial 8, .putfield 7, .aload 0, .new 9, .dup, .invokespecial 9, .putfield 8, .aload 0, .new 10, .dup, .aload 0, .getfield 8, .invokespecial 10, .putfield 9, .aload 0, .new 11, .dup, .iconst 0, .iconst 0, .iconst 0, .newarray .int, .iconst 0, .newarray .int, .invokespecial 11, .putfield 10, .aload 0, .iconst 8, .anewarray 11, .putfield 11, .aload 0, .iconst 12, .newarray .int, .putfield 12, .aload 0, .iconst 50, .putfield 17, .return_])]
/-- IceSearch$Sea.<init>()V -/
def am_b1 : List (Nat × List Instr) := [(0, [.aload 0, .monitorenter, .aload 0, .iconst 256, .newarray .boolean, .putfield 100, .aload 0, .iconst 256, .newarray .boolean, .putfield 101, .aload 0, .iconst 200, .newarray .int, .putfield 102, .aload 0, .iconst 200, .newarray .int, .putfield 103, .aload 0, .iconst 200, .newarray .int, .putfield 104, .aload 0, .iconst 200, .newarray .boolean, .putfield 105, .aload 0, .iconst 256, .newarray .int, .putfield 106, .return_])]
/-- IceSearch$Party.<init>()V -/
def am_b2 : List (Nat × List Instr) := [(0, [.aload 0, .monitorenter, .aload 0, .iconst 0, .putfield 200, .aload 0, .iconst 1, .putfield 201, .aload 0, .iconst 0, .putfield 202, .aload 0, .iconst (-1), .putfield 203, .return_])]
/-- IceSearch$Clues.<init>()V -/
def am_b3 : List (Nat × List Instr) := [(0, [.aload 0, .monitorenter, .aload 0, .iconst 360, .newarray .int, .putfield 300, .aload 0, .iconst 10, .newarray .int, .putfield 301, .aload 0, .iconst 10, .newarray .int, .putfield 302, .aload 0, .iconst 200, .newarray .int, .putfield 303, .aload 0, .iconst 200, .newarray .int, .putfield 304, .aload 0, .iconst 200, .newarray .boolean, .putfield 305, .aload 0, .iconst 6, .newarray .int, .putfield 306, .aload 0, .iconst 40, .newarray .int, .putfield 307, .return_])]
/-- IceSearch$Row.<init>(LIceSearch$Sea.LIceSearch$Party.LIceSearch$Clues.)V -/
def am_b4 : List (Nat × List Instr) := [(0, [.aload 0, .monitorenter, .aload 0, .iconst 119, .newarray .int, .putfield 403, .aload 0, .iconst 120, .newarray .int, .putfield 404, .aload 0, .aload 1, .putfield 400, .aload 0, .aload 2, .putfield 401, .aload 0, .aload 3, .putfield 402, .return_])]
/-- IceSearch$Ways.<init>(LIceSearch$Sea.LIceSearch$Party.LIceSearch$Clues.)V -/
def am_b5 : List (Nat × List Instr) := [(0, [.aload 0, .monitorenter, .aload 0, .iconst 256, .newarray .long, .putfield 503, .aload 0, .iconst 256, .newarray .long, .putfield 504, .aload 0, .iconst 256, .newarray .int, .putfield 505, .aload 0, .aload 1, .putfield 500, .aload 0, .aload 2, .putfield 501, .aload 0, .aload 3, .putfield 502, .return_])]
/-- IceSearch$Masses.<init>(LIceSearch$Sea.LIceSearch$Party.LIceSearch$Clues.)V -/
def am_b6 : List (Nat × List Instr) := [(0, [.aload 0, .monitorenter, .aload 0, .iconst 256, .newarray .int, .putfield 603, .aload 0, .iconst 256, .newarray .int, .putfield 604, .aload 0, .iconst 256, .newarray .int, .putfield 605, .aload 0, .iconst 256, .newarray .int, .putfield 606, .aload 0, .iconst 256, .newarray .int, .putfield 607, .aload 0, .aload 1, .putfield 600, .aload 0, .aload 2, .putfield 601, .aload 0, .aload 3, .putfield 602, .return_])]
/-- IceSearch$Fleet.<init>(LIceSearch$Sea.)V -/
def am_b7 : List (Nat × List Instr) := [(0, [.aload 0, .monitorenter, .aload 0, .iconst 4, .newarray .int, .putfield 701, .aload 0, .iconst 4, .newarray .int, .putfield 702, .aload 0, .iconst 4, .newarray .int, .putfield 703, .aload 0, .iconst 256, .newarray .int, .putfield 704, .aload 0, .iconst 256, .newarray .int, .putfield 705, .aload 0, .iconst 16, .newarray .int, .putfield 706, .aload 0, .iconst 16, .newarray .int, .putfield 707, .aload 0, .iconst 4, .newarray .int, .putfield 708, .aload 0, .iconst 4, .newarray .int, .putfield 709, .aload 0, .iconst 4, .newarray .int, .putfield 710, .aload 0, .aload 1, .putfield 700, .return_])]
/-- IceSearch$Voyage.<init>(LIceSearch$Sea.LIceSearch$Party.)V -/
def am_b8 : List (Nat × List Instr) := [(0, [.aload 0, .monitorenter, .aload 0, .iconst 12, .newarray .int, .putfield 802, .aload 0, .iconst 120, .newarray .int, .putfield 803, .aload 0, .aload 1, .putfield 800, .aload 0, .aload 2, .putfield 801, .return_])]
/-- IceSearch$Tape.<init>()V -/
def am_b9 : List (Nat × List Instr) := [(0, [.aload 0, .monitorenter, .aload 0, .iconst 700, .newarray .byte, .putfield 900, .aload 0, .iconst 701, .newarray .int, .putfield 901, .aload 0, .iconst 701, .newarray .int, .putfield 902, .return_])]
/-- IceSearch$Reader.<init>(LIceSearch$Tape.)V -/
def am_b10 : List (Nat × List Instr) := [(0, [.aload 0, .monitorenter, .aload 0, .iconst 150, .newarray .int, .putfield 1001, .aload 0, .iconst 700, .newarray .int, .putfield 1002, .aload 0, .iconst (-1), .putfield 1007, .aload 0, .aload 1, .putfield 1000, .return_])]
/-- IceSearch$Rules.<init>(II[I[I)V -/
def am_b11 : List (Nat × List Instr) := [(0, [.aload 0, .monitorenter, .aload 0, .iload 1, .putfield 1100, .aload 0, .iload 2, .putfield 1101, .aload 0, .aload 3, .putfield 1102, .aload 0, .aload 4, .putfield 1103, .return_])]
/-- IceSearch.day(I)Z -/
def am_b12 : List (Nat × List Instr) := [(0, [.iload 1, .aload 0, .getfield 15, .if_icmp .le 2, .goto_w 1]),
  (8, [.iload 1, .iconst 1000, .if_icmp .lt 3, .goto_w 2]),
  (15, [.iconst 0, .ireturn]),
  (17, [.aload 0, .iload 1, .putfield 15, .iconst 1, .ireturn])]
/-- IceSearch.land(IZ)Z -/
def am_b13 : List (Nat × List Instr) := [(0, [.iload 1, .invokestatic 14, .ifCond .eq 2, .goto_w 1]),
  (7, [.iload 1, .aload 0, .getfield 1, .getfield 200, .if_icmp .ne 3, .goto_w 2]),
  (18, [.iconst 0, .ireturn]),
  (20, [.aload 0, .getfield 0, .iload 1, .iload 2, .invokevirtual 15, .iconst 1, .ireturn])]
/-- IceSearch.isCell(I)Z -/
def am_b14 : List (Nat × List Instr) := [(0, [.iload 0, .ifCond .lt 3, .goto_w 1]),
  (4, [.iload 0, .iconst 256, .if_icmp .ge 3, .goto_w 2]),
  (11, [.iconst 1, .goto 4]),
  (15, [.iconst 0, .goto_w 4]),
  (16, [.ireturn])]
/-- IceSearch$Sea.tellLand(IZ)V -/
def am_b15 : List (Nat × List Instr) := [(0, [.iload 1, .invokestatic 14, .ifCond .eq 6, .goto_w 1]),
  (7, [.aload 0, .getfield 100, .iload 1, .baload, .iload 2, .if_icmp .eq 6, .goto_w 2]),
  (17, [.aload 0, .getfield 100, .iload 1, .iload 2, .bastore, .aload 0, .dup, .getfield 108, .iload 2, .ifCond .eq 4, .goto_w 3]),
  (33, [.iconst 1, .goto 5]),
  (37, [.iconst (-1), .goto_w 5]),
  (38, [.iadd, .putfield 108, .goto_w 6]),
  (42, [.return_])]
/-- IceSearch.lost(IIII)Z -/
def am_b16 : List (Nat × List Instr) := [(0, [.aload 0, .getfield 0, .iload 1, .invokevirtual 17, .ifCond .eq 8, .goto_w 1]),
  (11, [.iload 2, .iconst 1, .if_icmp .lt 8, .goto_w 2]),
  (16, [.iload 2, .iconst 200, .if_icmp .gt 8, .goto_w 3]),
  (23, [.iload 3, .ifCond .lt 8, .goto_w 4]),
  (27, [.iload 3, .iconst 99999, .if_icmp .gt 8, .goto_w 5]),
  (33, [.iload 4, .iconst (-1), .if_icmp .eq 7, .goto_w 6]),
  (39, [.iload 4, .invokestatic 18, .ifCond .eq 8, .goto_w 7]),
  (47, [.iconst 1, .goto 9]),
  (51, [.iconst 0, .goto_w 9]),
  (52, [.istore 5, .iload 5, .ifCond .eq 11, .goto_w 10]),
  (59, [.aload 0, .getfield 1, .iload 1, .putfield 200, .aload 0, .getfield 1, .iload 2, .putfield 201, .aload 0, .getfield 1, .iload 3, .putfield 202, .aload 0, .getfield 1, .iload 4, .putfield 203, .goto_w 11]),
  (92, [.iload 5, .ireturn])]
/-- IceSearch$Sea.isSea(I)Z -/
def am_b17 : List (Nat × List Instr) := [(0, [.iload 1, .invokestatic 14, .ifCond .eq 3, .goto_w 1]),
  (7, [.aload 0, .getfield 100, .iload 1, .baload, .ifCond .ne 3, .goto_w 2]),
  (16, [.iconst 1, .goto 4]),
  (20, [.iconst 0, .goto_w 4]),
  (21, [.ireturn])]
/-- IceSearch.isStep(I)Z -/
def am_b18 : List (Nat × List Instr) := [(0, [.iload 0, .ifCond .lt 3, .goto_w 1]),
  (4, [.iload 0, .iconst 120, .if_icmp .ge 3, .goto_w 2]),
  (10, [.iconst 1, .goto 4]),
  (14, [.iconst 0, .goto_w 4]),
  (15, [.ireturn])]
/-- IceSearch.set(II)Z -/
def am_b19 : List (Nat × List Instr) := [(0, [.iload 1, .invokestatic 18, .ifCond .eq 2, .goto_w 1]),
  (7, [.iload 2, .invokestatic 20, .ifCond .ne 3, .goto_w 2]),
  (14, [.iconst 0, .ireturn]),
  (16, [.aload 0, .iload 1, .putfield 16, .aload 0, .iload 2, .putfield 17, .iconst 1, .ireturn])]
/-- IceSearch.isHundredths(I)Z -/
def am_b20 : List (Nat × List Instr) := [(0, [.iload 0, .ifCond .lt 3, .goto_w 1]),
  (4, [.iload 0, .iconst 100, .if_icmp .gt 3, .goto_w 2]),
  (10, [.iconst 1, .goto 4]),
  (14, [.iconst 0, .goto_w 4]),
  (15, [.ireturn])]
/-- IceSearch.ice(IIZ)I -/
def am_b21 : List (Nat × List Instr) := [(0, [.iload 1, .invokestatic 14, .ifCond .eq 2, .goto_w 1]),
  (7, [.iload 2, .invokestatic 22, .ifCond .ne 3, .goto_w 2]),
  (14, [.iconst (-1), .ireturn]),
  (16, [.aload 0, .getfield 0, .iload 1, .iload 2, .iload 3, .aload 0, .getfield 15, .invokevirtual 23, .ireturn])]
/-- IceSearch.isYear(I)Z -/
def am_b22 : List (Nat × List Instr) := [(0, [.iload 0, .ifCond .lt 3, .goto_w 1]),
  (4, [.iload 0, .iconst 12, .if_icmp .ge 3, .goto_w 2]),
  (10, [.iconst 1, .goto 4]),
  (14, [.iconst 0, .goto_w 4]),
  (15, [.ireturn])]
/-- IceSearch$Sea.tellIce(IIZI)I -/
def am_b23 : List (Nat × List Instr) := [(0, [.aload 0, .getfield 107, .iconst 200, .if_icmp .lt 2, .goto_w 1]),
  (10, [.iconst (-1), .ireturn]),
  (12, [.aload 0, .getfield 102, .aload 0, .getfield 107, .iload 1, .iastore, .aload 0, .getfield 103, .aload 0, .getfield 107, .iload 2, .iastore, .aload 0, .getfield 105, .aload 0, .getfield 107, .iload 3, .bastore, .aload 0, .getfield 104, .aload 0, .getfield 107, .iload 4, .iastore, .aload 0, .dup, .getfield 107, .iconst 1, .iadd, .putfield 107, .aload 0, .getfield 107, .ireturn])]
/-- IceSearch.shut(III)I -/
def am_b24 : List (Nat × List Instr) := [(0, [.iload 1, .invokestatic 14, .ifCond .eq 3, .goto_w 1]),
  (7, [.iload 2, .invokestatic 22, .ifCond .eq 3, .goto_w 2]),
  (14, [.iload 3, .invokestatic 25, .ifCond .ne 4, .goto_w 3]),
  (21, [.iconst (-1), .ireturn]),
  (23, [.aload 0, .getfield 0, .iload 1, .iload 2, .iload 3, .invokevirtual 26, .ifCond .eq 6, .goto_w 5]),
  (36, [.iconst 1, .goto 7]),
  (40, [.iconst 0, .goto_w 7]),
  (41, [.ireturn])]
/-- IceSearch.isDay(I)Z -/
def am_b25 : List (Nat × List Instr) := [(0, [.iload 0, .ifCond .lt 3, .goto_w 1]),
  (4, [.iload 0, .iconst 1000, .if_icmp .ge 3, .goto_w 2]),
  (11, [.iconst 1, .goto 4]),
  (15, [.iconst 0, .goto_w 4]),
  (16, [.ireturn])]
/-- IceSearch$Sea.isShut(III)Z -/
def am_b26 : List (Nat × List Instr) := [(0, [.aload 0, .getfield 107, .iconst 1, .isub, .istore 4, .ret 1]),
  (8, [.iload 4, .ifCond .lt 7, .goto_w 2]),
  (13, [.aload 0, .getfield 104, .iload 4, .iaload, .iload 3, .if_icmp .gt 6, .goto_w 3]),
  (24, [.aload 0, .getfield 102, .iload 4, .iaload, .iload 1, .if_icmp .ne 6, .goto_w 4]),
  (35, [.aload 0, .getfield 103, .iload 4, .iaload, .iload 2, .if_icmp .ne 6, .goto_w 5]),
  (46, [.aload 0, .getfield 105, .iload 4, .baload, .ireturn]),
  (54, [.iinc 4 (-1), .jsr_w 1]),
  (60, [.iconst 0, .ireturn])]
/-- IceSearch.teller(II)I -/
def am_b27 : List (Nat × List Instr) := [(0, [.aload 0, .getfield 2, .iload 1, .iload 2, .invokevirtual 28, .ireturn])]
/-- IceSearch$Clues.tellTeller(II)I -/
def am_b28 : List (Nat × List Instr) := [(0, [.iload 1, .invokestatic 20, .ifCond .eq 4, .goto_w 1]),
  (7, [.iload 2, .iconst (-1), .if_icmp .eq 3, .goto_w 2]),
  (12, [.aload 0, .iload 2, .invokevirtual 29, .ifCond .eq 4, .goto_w 3]),
  (20, [.aload 0, .getfield 309, .iconst 10, .if_icmp .lt 5, .goto_w 4]),
  (29, [.iconst (-1), .ireturn]),
  (31, [.aload 0, .getfield 301, .aload 0, .getfield 309, .iload 1, .iastore, .aload 0, .getfield 302, .aload 0, .getfield 309, .iload 2, .iastore, .aload 0, .dup, .getfield 309, .iconst 1, .iadd, .putfield 309, .aload 0, .getfield 309, .iconst 1, .isub, .ireturn])]
/-- IceSearch$Clues.isTeller(I)Z -/
def am_b29 : List (Nat × List Instr) := [(0, [.iload 1, .ifCond .lt 3, .goto_w 1]),
  (4, [.iload 1, .aload 0, .getfield 309, .if_icmp .ge 3, .goto_w 2]),
  (12, [.iconst 1, .goto 4]),
  (16, [.iconst 0, .goto_w 4]),
  (17, [.ireturn])]
/-- IceSearch.find(IIIIIII)I -/
def am_b30 : List (Nat × List Instr) := [(0, [.iload 2, .invokestatic 14, .ifCond .eq 9, .goto_w 1]),
  (7, [.iload 3, .invokestatic 18, .ifCond .eq 9, .goto_w 2]),
  (14, [.iload 4, .invokestatic 18, .ifCond .eq 9, .goto_w 3]),
  (22, [.iload 3, .iload 4, .if_icmp .gt 9, .goto_w 4]),
  (28, [.aload 0, .getfield 2, .iload 1, .iload 5, .invokevirtual 31, .ifCond .eq 9, .goto_w 5]),
  (41, [.iload 6, .iconst (-1), .if_icmp .eq 7, .goto_w 6]),
  (47, [.aload 0, .getfield 2, .iload 6, .invokevirtual 29, .ifCond .eq 9, .goto_w 7]),
  (59, [.iload 7, .invokestatic 32, .ifCond .eq 9, .goto_w 8]),
  (67, [.iconst 1, .goto 10]),
  (71, [.iconst 0, .goto_w 10]),
  (72, [.istore 8, .iload 8, .ifCond .eq 12, .goto_w 11]),
  (79, [.aload 0, .getfield 2, .invokevirtual 33, .ifCond .eq 13, .goto_w 12]),
  (89, [.iconst (-1), .ireturn]),
  (91, [.aload 0, .getfield 2, .getfield 308, .istore 9, .aload 0, .getfield 2, .iload 9, .iconst 0, .iload 1, .invokevirtual 34, .aload 0, .getfield 2, .iload 9, .iconst 1, .iload 2, .invokevirtual 34, .aload 0, .getfield 2, .iload 9, .iconst 2, .iload 3, .invokevirtual 34, .aload 0, .getfield 2, .iload 9, .iconst 3, .iload 4, .invokevirtual 34, .aload 0, .getfield 2, .iload 9, .iconst 4, .iload 5, .invokevirtual 34, .aload 0, .getfield 2, .iload 9, .iconst 5, .iload 6, .invokevirtual 34, .aload 0, .getfield 2, .iload 9, .iconst 6, .iload 7, .invokevirtual 34, .aload 0, .getfield 2, .iload 9, .iconst 7, .aload 0, .getfield 2, .iload 6, .invokevirtual 35, .invokevirtual 34, .aload 0, .getfield 2, .iload 9, .iconst 8, .aload 0, .getfield 15, .invokevirtual 34, .aload 0, .getfield 2, .iload 9, .iconst 1, .iadd, .putfield 308, .iload 9, .ireturn])]
/-- IceSearch$Clues.isReach(II)Z -/
def am_b31 : List (Nat × List Instr) := [(0, [.iload 1, .tableswitch 25 0 4 #[1, 5, 10, 15, 20]]),
  (36, [.iload 2, .ifCond .ne 3, .goto_w 2]),
  (40, [.iconst 1, .goto 4]),
  (44, [.iconst 0, .goto_w 4]),
  (45, [.ireturn]),
  (46, [.iload 2, .ifCond .lt 8, .goto_w 6]),
  (50, [.iload 2, .iconst 2, .if_icmp .gt 8, .goto_w 7]),
  (55, [.iconst 1, .goto 9]),
  (59, [.iconst 0, .goto_w 9]),
  (60, [.ireturn]),
  (61, [.iload 2, .ifCond .lt 13, .goto_w 11]),
  (65, [.iload 2, .iconst 5, .if_icmp .gt 13, .goto_w 12]),
  (70, [.iconst 1, .goto 14]),
  (74, [.iconst 0, .goto_w 14]),
  (75, [.ireturn]),
  (76, [.iload 2, .ifCond .lt 18, .goto_w 16]),
  (80, [.iload 2, .iconst 15, .if_icmp .gt 18, .goto_w 17]),
  (86, [.iconst 1, .goto 19]),
  (90, [.iconst 0, .goto_w 19]),
  (91, [.ireturn]),
  (92, [.iload 2, .iconst 1, .if_icmp .lt 23, .goto_w 21]),
  (97, [.iload 2, .iconst 100, .if_icmp .gt 23, .goto_w 22]),
  (103, [.iconst 1, .goto 24]),
  (107, [.iconst 0, .goto_w 24]),
  (108, [.ireturn]),
  (109, [.iconst 0, .ireturn])]
/-- IceSearch.isFinder(I)Z -/
def am_b32 : List (Nat × List Instr) := [(0, [.iload 0, .ifCond .lt 3, .goto_w 1]),
  (4, [.iload 0, .iconst 10, .if_icmp .ge 3, .goto_w 2]),
  (10, [.iconst 1, .goto 4]),
  (14, [.iconst 0, .goto_w 4]),
  (15, [.ireturn])]
/-- IceSearch$Clues.isFull()Z -/
def am_b33 : List (Nat × List Instr) := [(0, [.aload 0, .getfield 308, .iconst 40, .if_icmp .lt 2, .goto_w 1]),
  (9, [.iconst 1, .goto 3]),
  (13, [.iconst 0, .goto_w 3]),
  (14, [.ireturn])]
/-- IceSearch$Clues.write(III)V -/
def am_b34 : List (Nat × List Instr) := [(0, [.iload 1, .ifCond .lt 5, .goto_w 1]),
  (4, [.iload 1, .iconst 40, .if_icmp .ge 5, .goto_w 2]),
  (10, [.iload 2, .ifCond .lt 5, .goto_w 3]),
  (14, [.iload 2, .iconst 9, .if_icmp .ge 5, .goto_w 4]),
  (20, [.aload 0, .getfield 300, .iload 1, .iconst 9, .imul, .iload 2, .iadd, .iload 3, .iastore, .goto_w 5]),
  (32, [.return_])]
/-- IceSearch$Clues.trustThrough(I)I -/
def am_b35 : List (Nat × List Instr) := [(0, [.aload 0, .iload 1, .invokevirtual 29, .ifCond .ne 2, .goto_w 1]),
  (8, [.iconst 100, .ireturn]),
  (11, [.aload 0, .getfield 301, .iload 1, .iaload, .istore 2, .aload 0, .getfield 302, .iload 1, .iaload, .istore 3, .iconst 0, .istore 4, .ret 3]),
  (28, [.iload 4, .iconst 10, .if_icmp .ge 6, .goto_w 4]),
  (35, [.aload 0, .iload 3, .invokevirtual 29, .ifCond .eq 6, .goto_w 5]),
  (43, [.iload 2, .aload 0, .getfield 301, .iload 3, .iaload, .invokestatic 36, .istore 2, .aload 0, .getfield 302, .iload 3, .iaload, .istore 3, .iinc 4 1, .jsr_w 3]),
  (67, [.iload 2, .ireturn])]
/-- IceSearch.hundredths(II)I -/
def am_b36 : List (Nat × List Instr) := [(0, [.iload 0, .i2l, .iload 1, .i2l, .lmul, .jsr 100, .ldiv, .l2i, .ireturn])]
/-- IceSearch.doubt(IZ)Z -/
def am_b37 : List (Nat × List Instr) := [(0, [.aload 0, .getfield 2, .iload 1, .invokevirtual 38, .ifCond .eq 3, .goto_w 1]),
  (11, [.aload 0, .getfield 2, .iload 1, .iload 2, .aload 0, .getfield 15, .invokevirtual 39, .ifCond .eq 3, .goto_w 2]),
  (27, [.iconst 1, .goto 4]),
  (31, [.iconst 0, .goto_w 4]),
  (32, [.ireturn])]
/-- IceSearch$Clues.isFind(I)Z -/
def am_b38 : List (Nat × List Instr) := [(0, [.iload 1, .ifCond .lt 3, .goto_w 1]),
  (4, [.iload 1, .aload 0, .getfield 308, .if_icmp .ge 3, .goto_w 2]),
  (12, [.iconst 1, .goto 4]),
  (16, [.iconst 0, .goto_w 4]),
  (17, [.ireturn])]
/-- IceSearch$Clues.tellDoubt(IZI)Z -/
def am_b39 : List (Nat × List Instr) := [(0, [.aload 0, .getfield 310, .iconst 200, .if_icmp .ge 2, .goto_w 1]),
  (10, [.aload 0, .iload 1, .iload 3, .invokevirtual 40, .iload 2, .if_icmp .ne 3, .goto_w 2]),
  (20, [.iconst 0, .ireturn]),
  (22, [.aload 0, .getfield 303, .aload 0, .getfield 310, .iload 1, .iastore, .aload 0, .getfield 305, .aload 0, .getfield 310, .iload 2, .bastore, .aload 0, .getfield 304, .aload 0, .getfield 310, .iload 3, .iastore, .aload 0, .dup, .getfield 310, .iconst 1, .iadd, .putfield 310, .iconst 1, .ireturn])]
/-- IceSearch$Clues.isDoubted(II)Z -/
def am_b40 : List (Nat × List Instr) := [(0, [.aload 0, .getfield 310, .iconst 1, .isub, .istore 3, .ret 1]),
  (7, [.iload 3, .ifCond .lt 6, .goto_w 2]),
  (11, [.aload 0, .getfield 304, .iload 3, .iaload, .iload 2, .if_icmp .gt 5, .goto_w 3]),
  (21, [.aload 0, .getfield 303, .iload 3, .iaload, .iload 1, .if_icmp .ne 5, .goto_w 4]),
  (31, [.aload 0, .getfield 305, .iload 3, .baload, .ireturn]),
  (38, [.iinc 3 (-1), .jsr_w 1]),
  (44, [.iconst 0, .ireturn])]
/-- IceSearch.found(II)I -/
def am_b41 : List (Nat × List Instr) := [(0, [.aload 0, .getfield 2, .iload 1, .invokevirtual 38, .ifCond .eq 3, .goto_w 1]),
  (11, [.iload 2, .ifCond .lt 3, .goto_w 2]),
  (15, [.iload 2, .iconst 9, .if_icmp .le 4, .goto_w 3]),
  (21, [.iconst (-2), .ireturn]),
  (24, [.iload 2, .iconst 9, .if_icmp .ne 9, .goto_w 5]),
  (30, [.aload 0, .getfield 2, .iload 1, .aload 0, .getfield 15, .invokevirtual 40, .ifCond .eq 7, .goto_w 6]),
  (45, [.iconst 1, .goto 8]),
  (49, [.iconst 0, .goto_w 8]),
  (50, [.ireturn]),
  (51, [.aload 0, .getfield 2, .iload 1, .iload 2, .invokevirtual 42, .ireturn])]
/-- IceSearch$Clues.fact(II)I -/
def am_b42 : List (Nat × List Instr) := [(0, [.iload 1, .ifCond .lt 5, .goto_w 1]),
  (4, [.iload 1, .aload 0, .getfield 308, .if_icmp .ge 5, .goto_w 2]),
  (12, [.iload 2, .ifCond .lt 5, .goto_w 3]),
  (16, [.iload 2, .iconst 9, .if_icmp .ge 5, .goto_w 4]),
  (22, [.aload 0, .getfield 300, .iload 1, .iconst 9, .imul, .iload 2, .iadd, .iaload, .goto 6]),
  (36, [.iconst (-1), .goto_w 6]),
  (37, [.ireturn])]
/-- IceSearch.kept(II)I -/
def am_b43 : List (Nat × List Instr) := [(0, [.iload 1, .invokestatic 25, .ifCond .ne 2, .goto_w 1]),
  (7, [.iconst (-1), .ireturn]),
  (9, [.aload 0, .getfield 2, .iload 1, .aload 0, .getfield 17, .invokevirtual 44, .iload 2, .ifCond .ne 4, .goto_w 3]),
  (25, [.aload 0, .getfield 2, .getfield 311, .ireturn]),
  (33, [.iload 2, .iconst 1, .if_icmp .ne 6, .goto_w 5]),
  (38, [.aload 0, .getfield 2, .getfield 312, .ireturn]),
  (46, [.iload 2, .iconst 10, .if_icmp .lt 8, .goto_w 7]),
  (52, [.aload 0, .getfield 2, .iload 2, .iconst 10, .isub, .invokevirtual 48, .goto 9]),
  (66, [.iconst (-1), .goto_w 9]),
  (67, [.ireturn])]
/-- IceSearch$Clues.readKept(II)V -/
def am_b44 : List (Nat × List Instr) := [(0, [.aload 0, .iconst 0, .putfield 311, .aload 0, .iconst 0, .putfield 312, .iconst 0, .istore 3, .ret 1]),
  (12, [.iload 3, .aload 0, .getfield 308, .if_icmp .ge 11, .goto_w 2]),
  (20, [.iload 3, .iconst 40, .if_icmp .ge 11, .goto_w 3]),
  (26, [.aload 0, .iload 3, .iload 1, .invokevirtual 45, .ifCond .eq 10, .goto_w 4]),
  (35, [.aload 0, .iload 3, .iconst 7, .invokevirtual 42, .iload 2, .if_icmp .ge 6, .goto_w 5]),
  (46, [.goto 10]),
  (49, [.aload 0, .iload 3, .invokevirtual 46, .ifCond .ne 8, .goto_w 7]),
  (57, [.aload 0, .iload 3, .invokevirtual 47, .goto 10]),
  (65, [.aload 0, .iload 3, .iconst 4, .invokevirtual 42, .iconst 100, .if_icmp .ne 10, .goto_w 9]),
  (76, [.aload 0, .getfield 307, .aload 0, .getfield 312, .iload 3, .iastore, .aload 0, .dup, .getfield 312, .iconst 1, .iadd, .putfield 312, .goto_w 10]),
  (96, [.iinc 3 1, .jsr_w 1]),
  (102, [.return_])]
/-- IceSearch$Clues.isBelieved(II)Z -/
def am_b45 : List (Nat × List Instr) := [(0, [.aload 0, .iload 1, .invokevirtual 38, .ifCond .eq 4, .goto_w 1]),
  (8, [.aload 0, .iload 1, .iconst 8, .invokevirtual 42, .iload 2, .if_icmp .gt 4, .goto_w 2]),
  (19, [.aload 0, .iload 1, .iload 2, .invokevirtual 40, .ifCond .ne 4, .goto_w 3]),
  (28, [.iconst 1, .goto 5]),
  (32, [.iconst 0, .goto_w 5]),
  (33, [.ireturn])]
/-- IceSearch$Clues.isNothing(I)Z -/
def am_b46 : List (Nat × List Instr) := [(0, [.aload 0, .iload 1, .iconst 0, .invokevirtual 42, .iconst 4, .if_icmp .ne 2, .goto_w 1]),
  (10, [.iconst 1, .goto 3]),
  (14, [.iconst 0, .goto_w 3]),
  (15, [.ireturn])]
/-- IceSearch$Clues.keep(I)V -/
def am_b47 : List (Nat × List Instr) := [(0, [.aload 0, .getfield 311, .iconst 6, .if_icmp .ge 2, .goto_w 1]),
  (9, [.aload 0, .getfield 306, .aload 0, .getfield 311, .iload 1, .iastore, .aload 0, .dup, .getfield 311, .iconst 1, .iadd, .putfield 311, .goto_w 2]),
  (29, [.return_])]
/-- IceSearch$Clues.keptFind(I)I -/
def am_b48 : List (Nat × List Instr) := [(0, [.iload 1, .ifCond .lt 3, .goto_w 1]),
  (4, [.iload 1, .aload 0, .getfield 311, .if_icmp .ge 3, .goto_w 2]),
  (12, [.aload 0, .getfield 306, .iload 1, .iaload, .goto 4]),
  (21, [.iconst (-1), .goto_w 4]),
  (22, [.ireturn])]
/-- IceSearch.fits(I)I -/
def am_b49 : List (Nat × List Instr) := [(0, [.iload 1, .invokestatic 25, .ifCond .ne 2, .goto_w 1]),
  (7, [.iconst (-1), .ireturn]),
  (9, [.aload 0, .iload 1, .iconst (-1), .iconst (-1), .iconst (-1), .invokevirtual 50, .ifCond .le 4, .goto_w 3]),
  (20, [.iconst 1, .goto 5]),
  (24, [.iconst 0, .goto_w 5]),
  (25, [.ireturn])]
/-- IceSearch.countEnds(IIII)I -/
def am_b50 : List (Nat × List Instr) := [(0, [.aload 0, .getfield 0, .iload 1, .invokevirtual 51, .aload 0, .getfield 2, .iload 1, .aload 0, .getfield 17, .invokevirtual 44, .aload 0, .getfield 4, .aload 0, .getfield 16, .iload 2, .iload 3, .iload 4, .invokevirtual 53, .aload 0, .getfield 4, .invokevirtual 69, .ireturn])]
/-- IceSearch$Sea.readIce(I)V -/
def am_b51 : List (Nat × List Instr) := [(0, [.aload 0, .getfield 106, .iconst 0, .invokestatic 52, .iconst 0, .istore 2, .ret 1]),
  (10, [.iload 2, .aload 0, .getfield 107, .if_icmp .ge 9, .goto_w 2]),
  (18, [.aload 0, .getfield 102, .iload 2, .iaload, .istore 3, .aload 0, .getfield 104, .iload 2, .iaload, .iload 1, .if_icmp .gt 8, .goto_w 3]),
  (35, [.iload 3, .invokestatic 14, .ifCond .eq 8, .goto_w 4]),
  (42, [.iconst 1, .aload 0, .getfield 103, .iload 2, .iaload, .ishl, .istore 4, .aload 0, .getfield 106, .iload 3, .aload 0, .getfield 105, .iload 2, .baload, .ifCond .eq 6, .goto_w 5]),
  (66, [.aload 0, .getfield 106, .iload 3, .iaload, .iload 4, .ior, .goto 7]),
  (78, [.aload 0, .getfield 106, .iload 3, .iaload, .iload 4, .iconst (-1), .ixor, .iand, .goto_w 7]),
  (89, [.iastore, .goto_w 8]),
  (90, [.iinc 2 1, .jsr_w 1]),
  (96, [.return_])]
/-- java/util/Arrays.fill([II)V -/
def am_b52 : List (Nat × List Instr) := [(0, [.iconst 0, .istore 2, .aload 0, .arraylength, .istore 3, .ret 1]),
  (5, [.iload 2, .iload 3, .if_icmp .ge 3, .goto_w 2]),
  (10, [.aload 0, .iload 2, .iload 1, .iastore, .iinc 2 1, .jsr_w 1]),
  (20, [.return_])]
/-- IceSearch$Ways.follow(IIII)V -/
def am_b53 : List (Nat × List Instr) := [(0, [.aload 0, .getfield 503, .jsr 0, .invokestatic 54, .aload 0, .getfield 501, .getfield 200, .invokestatic 14, .ifCond .eq 2, .goto_w 1]),
  (21, [.aload 0, .getfield 503, .aload 0, .getfield 501, .getfield 200, .jsr 1, .lastore, .goto_w 2]),
  (34, [.iconst 0, .istore 5, .ret 3]),
  (37, [.iload 5, .iload 1, .if_icmp .gt 15, .goto_w 4]),
  (43, [.iload 5, .ifCond .le 6, .goto_w 5]),
  (48, [.aload 0, .iload 5, .invokevirtual 55, .goto_w 6]),
  (54, [.iload 5, .iload 3, .if_icmp .ne 8, .goto_w 7]),
  (60, [.aload 0, .iload 2, .invokevirtual 59, .goto_w 8]),
  (65, [.aload 0, .iload 4, .invokevirtual 60, .iconst 0, .istore 6, .ret 9]),
  (74, [.iload 6, .aload 0, .getfield 502, .getfield 312, .if_icmp .ge 11, .goto_w 10]),
  (86, [.aload 0, .aload 0, .getfield 502, .iload 6, .iload 5, .invokevirtual 61, .invokevirtual 60, .iinc 6 1, .jsr_w 9]),
  (107, [.iconst 0, .istore 6, .ret 12]),
  (110, [.iload 6, .aload 0, .getfield 502, .getfield 311, .if_icmp .ge 14, .goto_w 13]),
  (122, [.aload 0, .iload 6, .iload 5, .invokevirtual 63, .iinc 6 1, .jsr_w 12]),
  (136, [.iinc 5 1, .jsr_w 3]),
  (142, [.return_])]
/-- java/util/Arrays.fill([JJ)V -/
def am_b54 : List (Nat × List Instr) := [(0, [.iconst 0, .istore 3, .aload 0, .arraylength, .istore 4, .ret 1]),
  (6, [.iload 3, .iload 4, .if_icmp .ge 3, .goto_w 2]),
  (12, [.aload 0, .iload 3, .lload 1, .lastore, .iinc 3 1, .jsr_w 1]),
  (22, [.return_])]
/-- IceSearch$Ways.spread(I)V -/
def am_b55 : List (Nat × List Instr) := [(0, [.aload 0, .getfield 500, .iload 1, .aload 0, .getfield 501, .iload 1, .invokevirtual 56, .aload 0, .getfield 505, .invokevirtual 57, .iconst 0, .istore 2, .ret 1]),
  (22, [.iload 2, .iconst 256, .if_icmp .ge 9, .goto_w 2]),
  (29, [.iload 2, .iconst 16, .irem, .ifCond .le 4, .goto_w 3]),
  (36, [.aload 0, .getfield 503, .iload 2, .iconst 1, .isub, .laload, .goto 5]),
  (47, [.jsr 0, .goto_w 5]),
  (48, [.lstore 3, .iload 2, .iconst 16, .irem, .iconst 15, .if_icmp .ge 7, .goto_w 6]),
  (58, [.aload 0, .getfield 503, .iload 2, .iconst 1, .iadd, .laload, .goto 8]),
  (69, [.jsr 0, .goto_w 8]),
  (70, [.lstore 5, .aload 0, .getfield 504, .iload 2, .lload 3, .aload 0, .getfield 503, .iload 2, .laload, .lor, .lload 5, .lor, .lastore, .iinc 2 1, .jsr_w 1]),
  (95, [.iconst 0, .istore 2, .ret 10]),
  (97, [.iload 2, .iconst 256, .if_icmp .ge 20, .goto_w 11]),
  (104, [.aload 0, .getfield 505, .iload 2, .iaload, .iconst 1, .if_icmp .ne 19, .goto_w 12]),
  (114, [.iload 2, .iconst 16, .if_icmp .lt 14, .goto_w 13]),
  (120, [.aload 0, .getfield 504, .iload 2, .iconst 16, .isub, .laload, .goto 15]),
  (132, [.jsr 0, .goto_w 15]),
  (133, [.lstore 3, .iload 2, .iconst 16, .iadd, .iconst 256, .if_icmp .ge 17, .goto_w 16]),
  (144, [.aload 0, .getfield 504, .iload 2, .iconst 16, .iadd, .laload, .goto 18]),
  (156, [.jsr 0, .goto_w 18]),
  (157, [.lstore 5, .aload 0, .getfield 503, .iload 2, .lload 3, .aload 0, .getfield 504, .iload 2, .laload, .lor, .lload 5, .lor, .lastore, .goto_w 19]),
  (176, [.iinc 2 1, .jsr_w 10]),
  (182, [.return_])]
/-- IceSearch$Party.walksOn(I)Z -/
def am_b56 : List (Nat × List Instr) := [(0, [.aload 0, .getfield 203, .iconst (-1), .if_icmp .eq 3, .goto_w 1]),
  (8, [.iload 1, .aload 0, .getfield 203, .if_icmp .lt 3, .goto_w 2]),
  (16, [.iconst 1, .goto 4]),
  (20, [.iconst 0, .goto_w 4]),
  (21, [.ireturn])]
/-- IceSearch$Sea.readGoals(IZ[I)V -/
def am_b57 : List (Nat × List Instr) := [(0, [.iconst 0, .istore 4, .ret 1]),
  (3, [.iload 4, .iconst 256, .if_icmp .ge 8, .goto_w 2]),
  (11, [.iload 4, .aload 3, .arraylength, .if_icmp .ge 8, .goto_w 3]),
  (18, [.aload 3, .iload 4, .iload 2, .ifCond .ne 5, .goto_w 4]),
  (25, [.aload 0, .iload 4, .iload 1, .invokevirtual 58, .ifCond .eq 6, .goto_w 5]),
  (35, [.iconst 1, .goto 7]),
  (39, [.iconst 0, .goto_w 7]),
  (40, [.iastore, .iinc 4 1, .jsr_w 1]),
  (47, [.return_])]
/-- IceSearch$Sea.isOpen(II)Z -/
def am_b58 : List (Nat × List Instr) := [(0, [.iload 1, .invokestatic 14, .ifCond .eq 4, .goto_w 1]),
  (7, [.aload 0, .getfield 100, .iload 1, .baload, .ifCond .ne 4, .goto_w 2]),
  (16, [.aload 0, .getfield 106, .iload 1, .iaload, .iload 2, .iconst 10, .idiv, .ishr, .iconst 1, .iand, .ifCond .ne 4, .goto_w 3]),
  (32, [.iconst 1, .goto 5]),
  (36, [.iconst 0, .goto_w 5]),
  (37, [.ireturn])]
/-- IceSearch$Ways.dropAllBut(I)V -/
def am_b59 : List (Nat × List Instr) := [(0, [.iconst 0, .istore 2, .ret 1]),
  (2, [.iload 2, .iconst 256, .if_icmp .ge 5, .goto_w 2]),
  (9, [.iload 2, .iload 1, .if_icmp .eq 4, .goto_w 3]),
  (14, [.aload 0, .getfield 503, .iload 2, .jsr 0, .lastore, .goto_w 4]),
  (21, [.iinc 2 1, .jsr_w 1]),
  (27, [.return_])]
/-- IceSearch$Ways.drop(I)V -/
def am_b60 : List (Nat × List Instr) := [(0, [.iload 1, .invokestatic 14, .ifCond .eq 2, .goto_w 1]),
  (7, [.aload 0, .getfield 503, .iload 1, .jsr 0, .lastore, .goto_w 2]),
  (14, [.return_])]
/-- IceSearch$Clues.barredCell(II)I -/
def am_b61 : List (Nat × List Instr) := [(0, [.iload 1, .ifCond .lt 4, .goto_w 1]),
  (4, [.iload 1, .aload 0, .getfield 312, .if_icmp .ge 4, .goto_w 2]),
  (12, [.aload 0, .aload 0, .getfield 307, .iload 1, .iaload, .iload 2, .invokevirtual 62, .ifCond .eq 4, .goto_w 3]),
  (26, [.aload 0, .aload 0, .getfield 307, .iload 1, .iaload, .iconst 1, .invokevirtual 42, .goto 5]),
  (40, [.iconst (-1), .goto_w 5]),
  (41, [.ireturn])]
/-- IceSearch$Clues.isOnStep(II)Z -/
def am_b62 : List (Nat × List Instr) := [(0, [.iload 2, .aload 0, .iload 1, .iconst 2, .invokevirtual 42, .if_icmp .lt 3, .goto_w 1]),
  (10, [.iload 2, .aload 0, .iload 1, .iconst 3, .invokevirtual 42, .if_icmp .gt 3, .goto_w 2]),
  (20, [.iconst 1, .goto 4]),
  (24, [.iconst 0, .goto_w 4]),
  (25, [.ireturn])]
/-- IceSearch$Ways.meet(II)V -/
def am_b63 : List (Nat × List Instr) := [(0, [.aload 0, .getfield 502, .iload 1, .invokevirtual 48, .istore 3, .aload 0, .getfield 502, .iload 3, .iload 2, .invokevirtual 62, .ifCond .ne 2, .goto_w 1]),
  (21, [.return_]),
  (22, [.iconst 0, .istore 4, .ret 3]),
  (25, [.iload 4, .iconst 256, .if_icmp .ge 7, .goto_w 4]),
  (33, [.aload 0, .getfield 502, .iload 3, .iload 4, .invokevirtual 64, .ifCond .eq 6, .goto_w 5]),
  (46, [.aload 0, .getfield 503, .iload 4, .aload 0, .aload 0, .getfield 503, .iload 4, .laload, .iload 1, .invokevirtual 68, .lastore, .goto_w 6]),
  (65, [.iinc 4 1, .jsr_w 3]),
  (71, [.return_])]
/-- IceSearch$Clues.isNear(II)Z -/
def am_b64 : List (Nat × List Instr) := [(0, [.iload 2, .aload 0, .iload 1, .iconst 1, .invokevirtual 42, .invokestatic 65, .aload 0, .iload 1, .iconst 4, .invokevirtual 42, .if_icmp .gt 2, .goto_w 1]),
  (19, [.iconst 1, .goto 3]),
  (23, [.iconst 0, .goto_w 3]),
  (24, [.ireturn])]
/-- IceSearch.far(II)I -/
def am_b65 : List (Nat × List Instr) := [(0, [.iload 0, .iconst 16, .idiv, .iload 1, .iconst 16, .idiv, .isub, .invokestatic 66, .iload 0, .iconst 16, .irem, .iload 1, .iconst 16, .irem, .isub, .invokestatic 66, .invokestatic 67, .ireturn])]
/-- java/lang/Math.abs(I)I -/
def am_b66 : List (Nat × List Instr) := [(0, [.iload 0, .ifCond .ge 2, .goto_w 1]),
  (4, [.iload 0, .ineg, .goto 3]),
  (9, [.iload 0, .goto_w 3]),
  (10, [.ireturn])]
/-- java/lang/Math.max(II)I -/
def am_b67 : List (Nat × List Instr) := [(0, [.iload 0, .iload 1, .if_icmp .lt 2, .goto_w 1]),
  (5, [.iload 0, .goto 3]),
  (9, [.iload 1, .goto_w 3]),
  (10, [.ireturn])]
/-- IceSearch$Ways.withFind(JI)J -/
def am_b68 : List (Nat × List Instr) := [(0, [.iload 3, .ifCond .lt 2, .goto_w 1]),
  (4, [.iload 3, .getstatic 2, .arraylength, .if_icmp .lt 3, .goto_w 2]),
  (12, [.lload 1, .lreturn]),
  (14, [.getstatic 2, .iload 3, .laload, .lstore 4, .lload 1, .lload 4, .land, .lload 1, .lload 4, .jsr (-1), .lxor, .land, .iconst 1, .iload 3, .ishl, .lshl, .lor, .lreturn])]
/-- IceSearch$Ways.countFull()I -/
def am_b69 : List (Nat × List Instr) := [(0, [.iconst 1, .aload 0, .getfield 502, .getfield 311, .ishl, .iconst 1, .isub, .istore 1, .iconst 0, .istore 2, .iconst 0, .istore 3, .ret 1]),
  (16, [.iload 3, .iconst 256, .if_icmp .ge 3, .goto_w 2]),
  (23, [.iload 2, .aload 0, .getfield 503, .iload 3, .laload, .iload 1, .lushr, .jsr 1, .land, .l2i, .iadd, .istore 2, .iinc 3 1, .jsr_w 1]),
  (43, [.iload 2, .ireturn])]
/-- IceSearch.most(II)I -/
def am_b70 : List (Nat × List Instr) := [(0, [.iload 1, .invokestatic 25, .ifCond .eq 3, .goto_w 1]),
  (7, [.iload 2, .ifCond .lt 3, .goto_w 2]),
  (11, [.iload 2, .iconst 1, .if_icmp .le 4, .goto_w 3]),
  (16, [.iconst (-1), .ireturn]),
  (18, [.aload 0, .iload 1, .iconst (-1), .iconst (-1), .iconst (-1), .invokevirtual 50, .pop, .aload 0, .getfield 4, .invokevirtual 71, .istore 3, .iload 3, .iconst (-1), .if_icmp .eq 6, .goto_w 5]),
  (40, [.iload 2, .iconst 1, .if_icmp .ne 7, .goto_w 6]),
  (45, [.iload 3, .goto 8]),
  (49, [.iload 3, .invokestatic 72, .goto_w 8]),
  (53, [.ireturn])]
/-- IceSearch$Ways.mostMet()I -/
def am_b71 : List (Nat × List Instr) := [(0, [.jsr 0, .lstore 1, .iconst 0, .istore 3, .ret 1]),
  (4, [.iload 3, .iconst 256, .if_icmp .ge 3, .goto_w 2]),
  (11, [.lload 1, .aload 0, .getfield 503, .iload 3, .laload, .lor, .lstore 1, .iinc 3 1, .jsr_w 1]),
  (26, [.iconst (-1), .istore 3, .iconst 0, .istore 4, .ret 4]),
  (31, [.iload 4, .iconst 64, .if_icmp .ge 10, .goto_w 5]),
  (38, [.lload 1, .iload 4, .lushr, .jsr 1, .land, .jsr 1, .lcmp, .ifCond .ne 9, .goto_w 6]),
  (49, [.iload 3, .iconst (-1), .if_icmp .eq 8, .goto_w 7]),
  (54, [.iload 4, .invokestatic 72, .iload 3, .invokestatic 72, .if_icmp .le 9, .goto_w 8]),
  (66, [.iload 4, .istore 3, .goto_w 9]),
  (69, [.iinc 4 1, .jsr_w 4]),
  (75, [.iload 3, .ireturn])]
/-- java/lang/Integer.bitCount(I)I -/
def am_b72 : List (Nat × List Instr) := [(0, [.iload 0, .iload 0, .iconst 1, .iushr, .iconst 1431655765, .iand, .isub, .istore 0, .iload 0, .iconst 858993459, .iand, .iload 0, .iconst 2, .iushr, .iconst 858993459, .iand, .iadd, .istore 0, .iload 0, .iload 0, .iconst 4, .iushr, .iadd, .iconst 252645135, .iand, .istore 0, .iload 0, .iload 0, .iconst 8, .iushr, .iadd, .istore 0, .iload 0, .iload 0, .iconst 16, .iushr, .iadd, .istore 0, .iload 0, .iconst 63, .iand, .ireturn])]
/-- IceSearch.at(III)I -/
def am_b73 : List (Nat × List Instr) := [(0, [.iload 1, .invokestatic 25, .ifCond .eq 3, .goto_w 1]),
  (7, [.iload 2, .invokestatic 14, .ifCond .eq 3, .goto_w 2]),
  (14, [.aload 0, .iload 3, .invokevirtual 74, .ifCond .ne 4, .goto_w 3]),
  (22, [.iconst (-1), .ireturn]),
  (24, [.aload 0, .iload 1, .iload 2, .iload 3, .iconst (-1), .invokevirtual 50, .ifCond .le 6, .goto_w 5]),
  (35, [.iconst 1, .goto 7]),
  (39, [.iconst 0, .goto_w 7]),
  (40, [.ireturn])]
/-- IceSearch.isStepOfWays(I)Z -/
def am_b74 : List (Nat × List Instr) := [(0, [.iload 1, .ifCond .lt 3, .goto_w 1]),
  (4, [.iload 1, .aload 0, .getfield 16, .if_icmp .gt 3, .goto_w 2]),
  (12, [.iconst 1, .goto 4]),
  (16, [.iconst 0, .goto_w 4]),
  (17, [.ireturn])]
/-- IceSearch.sure(II)I -/
def am_b75 : List (Nat × List Instr) := [(0, [.iload 1, .invokestatic 25, .ifCond .eq 2, .goto_w 1]),
  (7, [.iload 2, .invokestatic 14, .ifCond .ne 3, .goto_w 2]),
  (14, [.iconst (-1), .ireturn]),
  (16, [.aload 0, .iload 1, .iconst (-1), .iconst (-1), .iconst (-1), .invokevirtual 50, .ifCond .le 6, .goto_w 4]),
  (27, [.aload 0, .iload 1, .iconst (-1), .iconst (-1), .iload 2, .invokevirtual 50, .ifCond .ne 6, .goto_w 5]),
  (38, [.iconst 1, .goto 7]),
  (42, [.iconst 0, .goto_w 7]),
  (43, [.ireturn])]
/-- IceSearch.ends(I)I -/
def am_b76 : List (Nat × List Instr) := [(0, [.iload 1, .invokestatic 25, .ifCond .ne 2, .goto_w 1]),
  (7, [.iconst (-1), .ireturn]),
  (9, [.aload 0, .iload 1, .iconst (-1), .iconst (-1), .iconst (-1), .invokevirtual 50, .ireturn])]
/-- IceSearch.move(I)I -/
def am_b77 : List (Nat × List Instr) := [(0, [.aload 0, .getfield 3, .iload 1, .invokevirtual 78, .ireturn])]
/-- IceSearch$Row.add(I)I -/
def am_b78 : List (Nat × List Instr) := [(0, [.iload 1, .ifCond .lt 3, .goto_w 1]),
  (4, [.iload 1, .iconst 9, .if_icmp .ge 3, .goto_w 2]),
  (10, [.aload 0, .getfield 405, .iconst 119, .if_icmp .lt 4, .goto_w 3]),
  (19, [.iconst (-1), .ireturn]),
  (21, [.aload 0, .getfield 403, .aload 0, .getfield 405, .iload 1, .iastore, .aload 0, .dup, .getfield 405, .iconst 1, .iadd, .putfield 405, .aload 0, .getfield 405, .ireturn])]
/-- IceSearch.clear()I -/
def am_b79 : List (Nat × List Instr) := [(0, [.aload 0, .getfield 3, .invokevirtual 80, .ireturn])]
/-- IceSearch$Row.empty()I -/
def am_b80 : List (Nat × List Instr) := [(0, [.aload 0, .getfield 405, .istore 1, .aload 0, .iconst 0, .putfield 405, .iload 1, .ireturn])]
/-- IceSearch.judge(I)I -/
def am_b81 : List (Nat × List Instr) := [(0, [.iload 1, .invokestatic 25, .ifCond .ne 2, .goto_w 1]),
  (7, [.iconst (-2), .ireturn]),
  (10, [.aload 0, .getfield 0, .iload 1, .invokevirtual 51, .aload 0, .getfield 2, .iload 1, .aload 0, .getfield 17, .invokevirtual 44, .aload 0, .getfield 3, .invokevirtual 82, .ireturn])]
/-- IceSearch$Row.firstAgainst()I -/
def am_b82 : List (Nat × List Instr) := [(0, [.aload 0, .invokevirtual 83, .istore 1, .iload 1, .iconst (-1), .if_icmp .eq 2, .goto_w 1]),
  (10, [.iload 1, .ireturn]),
  (12, [.iconst 0, .istore 2, .ret 3]),
  (14, [.iload 2, .aload 0, .getfield 402, .getfield 311, .if_icmp .ge 7, .goto_w 4]),
  (25, [.aload 0, .getfield 402, .iload 2, .invokevirtual 48, .istore 3, .aload 0, .iload 3, .invokevirtual 87, .ifCond .ne 6, .goto_w 5]),
  (42, [.iconst 1000, .iload 3, .iadd, .ireturn]),
  (48, [.iinc 2 1, .jsr_w 3]),
  (54, [.iconst (-1), .ireturn])]
/-- IceSearch$Row.firstWrongStep()I -/
def am_b83 : List (Nat × List Instr) := [(0, [.aload 0, .getfield 401, .getfield 200, .istore 1, .iconst 0, .istore 2, .ret 1]),
  (10, [.iload 2, .aload 0, .getfield 405, .if_icmp .gt 9, .goto_w 2]),
  (18, [.iload 2, .iconst 120, .if_icmp .ge 9, .goto_w 3]),
  (24, [.iload 2, .ifCond .le 5, .goto_w 4]),
  (28, [.aload 0, .iload 1, .aload 0, .getfield 403, .iload 2, .iconst 1, .isub, .iaload, .iload 2, .invokevirtual 84, .istore 1, .goto_w 5]),
  (43, [.iload 1, .iconst (-1), .if_icmp .eq 7, .goto_w 6]),
  (48, [.aload 0, .getfield 402, .iload 1, .iload 2, .invokevirtual 86, .ifCond .eq 8, .goto_w 7]),
  (60, [.iload 2, .ireturn]),
  (62, [.aload 0, .getfield 404, .iload 2, .iload 1, .iastore, .iinc 2 1, .jsr_w 1]),
  (75, [.iconst (-1), .ireturn])]
/-- IceSearch$Row.cellAfter(III)I -/
def am_b84 : List (Nat × List Instr) := [(0, [.iload 1, .iload 2, .invokestatic 85, .istore 4, .iload 4, .iload 1, .if_icmp .eq 3, .goto_w 1]),
  (13, [.aload 0, .getfield 401, .iload 3, .invokevirtual 56, .ifCond .ne 3, .goto_w 2]),
  (24, [.aload 0, .getfield 400, .iload 4, .iload 3, .invokevirtual 58, .ifCond .eq 4, .goto_w 3]),
  (37, [.iload 4, .goto 5]),
  (42, [.iconst (-1), .goto_w 5]),
  (43, [.ireturn])]
/-- IceSearch.nextCell(II)I -/
def am_b85 : List (Nat × List Instr) := [(0, [.iload 0, .invokestatic 14, .ifCond .eq 3, .goto_w 1]),
  (7, [.iload 1, .ifCond .lt 3, .goto_w 2]),
  (11, [.iload 1, .iconst 9, .if_icmp .lt 4, .goto_w 3]),
  (17, [.iconst (-1), .ireturn]),
  (19, [.iload 0, .iconst 16, .idiv, .getstatic 0, .iload 1, .iaload, .iadd, .istore 2, .iload 0, .iconst 16, .irem, .getstatic 1, .iload 1, .iaload, .iadd, .istore 3, .iload 2, .ifCond .lt 9, .goto_w 5]),
  (45, [.iload 2, .iconst 16, .if_icmp .ge 9, .goto_w 6]),
  (51, [.iload 3, .ifCond .lt 9, .goto_w 7]),
  (55, [.iload 3, .iconst 16, .if_icmp .ge 9, .goto_w 8]),
  (61, [.iload 2, .iconst 16, .imul, .iload 3, .iadd, .goto 10]),
  (70, [.iconst (-1), .goto_w 10]),
  (71, [.ireturn])]
/-- IceSearch$Clues.isBarred(II)Z -/
def am_b86 : List (Nat × List Instr) := [(0, [.iconst 0, .istore 3, .ret 1]),
  (2, [.iload 3, .aload 0, .getfield 312, .if_icmp .ge 5, .goto_w 2]),
  (10, [.aload 0, .iload 3, .iload 2, .invokevirtual 61, .iload 1, .if_icmp .ne 4, .goto_w 3]),
  (20, [.iconst 1, .ireturn]),
  (22, [.iinc 3 1, .jsr_w 1]),
  (28, [.iconst 0, .ireturn])]
/-- IceSearch$Row.doesMeet(I)Z -/
def am_b87 : List (Nat × List Instr) := [(0, [.iconst 0, .istore 2, .ret 1]),
  (2, [.iload 2, .aload 0, .getfield 405, .if_icmp .gt 7, .goto_w 2]),
  (10, [.iload 2, .iconst 120, .if_icmp .ge 7, .goto_w 3]),
  (16, [.aload 0, .getfield 402, .iload 1, .iload 2, .invokevirtual 62, .ifCond .eq 6, .goto_w 4]),
  (28, [.aload 0, .getfield 402, .iload 1, .aload 0, .getfield 404, .iload 2, .iaload, .invokevirtual 64, .ifCond .eq 6, .goto_w 5]),
  (45, [.iconst 1, .ireturn]),
  (47, [.iinc 2 1, .jsr_w 1]),
  (53, [.iconst 0, .ireturn])]
/-- IceSearch.alive(I)I -/
def am_b88 : List (Nat × List Instr) := [(0, [.iload 1, .invokestatic 18, .ifCond .ne 2, .goto_w 1]),
  (7, [.iconst (-1), .ireturn]),
  (9, [.aload 0, .getfield 7, .invokevirtual 89, .iconst 1, .istore 2, .ret 3]),
  (18, [.iload 2, .iload 1, .if_icmp .gt 5, .goto_w 4]),
  (23, [.aload 0, .getfield 7, .invokevirtual 90, .iinc 2 1, .jsr_w 3]),
  (36, [.aload 0, .getfield 7, .getfield 805, .ireturn])]
/-- IceSearch$Voyage.embark()V -/
def am_b89 : List (Nat × List Instr) := [(0, [.aload 0, .aload 0, .getfield 801, .getfield 200, .putfield 804, .aload 0, .aload 0, .getfield 801, .getfield 201, .putfield 805, .aload 0, .aload 0, .getfield 801, .getfield 202, .putfield 806, .aload 0, .iconst 0, .putfield 807, .aload 0, .iconst (-1), .putfield 808, .return_])]
/-- IceSearch$Voyage.eat()V -/
def am_b90 : List (Nat × List Instr) := [(0, [.aload 0, .getfield 806, .aload 0, .getfield 805, .if_icmp .lt 2, .goto_w 1]),
  (11, [.aload 0, .dup, .getfield 806, .aload 0, .getfield 805, .isub, .putfield 806, .goto 3]),
  (27, [.aload 0, .iconst 0, .putfield 806, .aload 0, .dup, .getfield 805, .aload 0, .getfield 805, .iconst 10, .idiv, .iconst 1, .iadd, .isub, .putfield 805, .goto_w 3]),
  (50, [.return_])]
/-- IceSearch.chance(III)I -/
def am_b91 : List (Nat × List Instr) := [(0, [.iload 1, .invokestatic 25, .ifCond .eq 3, .goto_w 1]),
  (7, [.iload 2, .invokestatic 14, .ifCond .eq 3, .goto_w 2]),
  (14, [.aload 0, .iload 3, .invokevirtual 74, .ifCond .ne 4, .goto_w 3]),
  (22, [.iconst (-1), .ireturn]),
  (24, [.aload 0, .getfield 5, .iload 1, .iload 2, .iload 3, .iconst (-1), .invokevirtual 92, .ireturn])]
/-- IceSearch$Masses.massAt(IIII)I -/
def am_b92 : List (Nat × List Instr) := [(0, [.aload 0, .iload 1, .iload 3, .iload 4, .invokevirtual 93, .iload 2, .invokestatic 14, .ifCond .eq 2, .goto_w 1]),
  (15, [.aload 0, .getfield 603, .iload 2, .iaload, .goto 3]),
  (24, [.iconst (-1), .goto_w 3]),
  (25, [.ireturn])]
/-- IceSearch$Masses.follow(III)V -/
def am_b93 : List (Nat × List Instr) := [(0, [.aload 0, .getfield 600, .iload 1, .invokevirtual 51, .aload 0, .getfield 603, .iconst 0, .invokestatic 52, .aload 0, .getfield 601, .getfield 200, .invokestatic 14, .ifCond .eq 2, .goto_w 1]),
  (29, [.aload 0, .getfield 603, .aload 0, .getfield 601, .getfield 200, .iconst 1000000000, .iastore, .goto_w 2]),
  (43, [.iconst 1, .istore 4, .ret 3]),
  (46, [.iload 4, .iload 2, .if_icmp .gt 12, .goto_w 4]),
  (52, [.aload 0, .iload 4, .invokevirtual 94, .iconst 0, .istore 5, .ret 5]),
  (61, [.iload 5, .aload 0, .getfield 602, .getfield 308, .if_icmp .ge 11, .goto_w 6]),
  (73, [.iload 5, .iload 3, .if_icmp .eq 10, .goto_w 7]),
  (79, [.aload 0, .getfield 602, .iload 5, .iload 4, .invokevirtual 62, .ifCond .eq 10, .goto_w 8]),
  (93, [.aload 0, .getfield 602, .iload 5, .iload 1, .invokevirtual 45, .ifCond .eq 10, .goto_w 9]),
  (106, [.aload 0, .iload 5, .iload 4, .invokevirtual 96, .goto_w 10]),
  (114, [.iinc 5 1, .jsr_w 5]),
  (120, [.iinc 4 1, .jsr_w 3]),
  (126, [.return_])]
/-- IceSearch$Masses.part(I)V -/
def am_b94 : List (Nat × List Instr) := [(0, [.aload 0, .getfield 600, .iload 1, .aload 0, .getfield 601, .iload 1, .invokevirtual 56, .aload 0, .getfield 605, .invokevirtual 57, .aload 0, .aload 0, .getfield 605, .invokevirtual 95, .iconst 0, .istore 2, .ret 1]),
  (30, [.iload 2, .iconst 256, .if_icmp .ge 3, .goto_w 2]),
  (37, [.iconst 1, .aload 0, .getfield 607, .iload 2, .iaload, .aload 0, .getfield 605, .iload 2, .iaload, .isub, .iconst 1, .iadd, .invokestatic 67, .istore 3, .aload 0, .getfield 604, .iload 2, .aload 0, .getfield 603, .iload 2, .iaload, .iload 3, .idiv, .iastore, .aload 0, .getfield 603, .iload 2, .dup2, .iaload, .aload 0, .getfield 604, .iload 2, .iaload, .iload 3, .iconst 1, .isub, .imul, .isub, .iastore, .iinc 2 1, .jsr_w 1]),
  (96, [.aload 0, .aload 0, .getfield 604, .invokevirtual 95, .iconst 0, .istore 2, .ret 4]),
  (106, [.iload 2, .iconst 256, .if_icmp .ge 8, .goto_w 5]),
  (113, [.aload 0, .getfield 605, .iload 2, .iaload, .iconst 1, .if_icmp .ne 7, .goto_w 6]),
  (123, [.aload 0, .getfield 603, .iload 2, .dup2, .iaload, .aload 0, .getfield 607, .iload 2, .iaload, .aload 0, .getfield 604, .iload 2, .iaload, .isub, .iadd, .iastore, .goto_w 7]),
  (145, [.iinc 2 1, .jsr_w 4]),
  (151, [.return_])]
/-- IceSearch$Masses.sumAround([I)V -/
def am_b95 : List (Nat × List Instr) := [(0, [.iconst 0, .istore 2, .ret 1]),
  (2, [.iload 2, .iconst 256, .if_icmp .ge 11, .goto_w 2]),
  (9, [.iload 2, .aload 1, .arraylength, .if_icmp .ge 11, .goto_w 3]),
  (15, [.iload 2, .iconst 16, .irem, .ifCond .le 5, .goto_w 4]),
  (22, [.aload 1, .iload 2, .iconst 1, .isub, .iaload, .goto 6]),
  (30, [.iconst 0, .goto_w 6]),
  (31, [.istore 3, .iload 2, .iconst 16, .irem, .iconst 15, .if_icmp .ge 9, .goto_w 7]),
  (41, [.iload 2, .iconst 1, .iadd, .aload 1, .arraylength, .if_icmp .ge 9, .goto_w 8]),
  (49, [.aload 1, .iload 2, .iconst 1, .iadd, .iaload, .goto 10]),
  (57, [.iconst 0, .goto_w 10]),
  (58, [.istore 4, .aload 0, .getfield 606, .iload 2, .iload 3, .aload 1, .iload 2, .iaload, .iadd, .iload 4, .iadd, .iastore, .iinc 2 1, .jsr_w 1]),
  (80, [.iconst 0, .istore 2, .ret 12]),
  (82, [.iload 2, .iconst 256, .if_icmp .ge 20, .goto_w 13]),
  (89, [.iload 2, .iconst 16, .if_icmp .lt 15, .goto_w 14]),
  (95, [.aload 0, .getfield 606, .iload 2, .iconst 16, .isub, .iaload, .goto 16]),
  (107, [.iconst 0, .goto_w 16]),
  (108, [.istore 3, .iload 2, .iconst 16, .iadd, .iconst 256, .if_icmp .ge 18, .goto_w 17]),
  (119, [.aload 0, .getfield 606, .iload 2, .iconst 16, .iadd, .iaload, .goto 19]),
  (131, [.iconst 0, .goto_w 19]),
  (132, [.istore 4, .aload 0, .getfield 607, .iload 2, .iload 3, .aload 0, .getfield 606, .iload 2, .iaload, .iadd, .iload 4, .iadd, .iastore, .iinc 2 1, .jsr_w 12]),
  (157, [.return_])]
/-- IceSearch$Masses.lessen(II)V -/
def am_b96 : List (Nat × List Instr) := [(0, [.aload 0, .getfield 602, .iload 1, .invokevirtual 46, .ifCond .eq 2, .goto_w 1]),
  (11, [.aload 0, .aload 0, .getfield 602, .iload 1, .iconst 1, .invokevirtual 42, .aload 0, .getfield 602, .iload 1, .iconst 4, .invokevirtual 42, .invokevirtual 97, .goto 8]),
  (36, [.iload 2, .aload 0, .getfield 602, .iload 1, .iconst 3, .invokevirtual 42, .if_icmp .ne 8, .goto_w 3]),
  (49, [.iconst 0, .istore 3, .ret 4]),
  (51, [.iload 3, .iconst 256, .if_icmp .ge 8, .goto_w 5]),
  (58, [.aload 0, .getfield 602, .iload 1, .iload 3, .invokevirtual 64, .ifCond .ne 7, .goto_w 6]),
  (70, [.aload 0, .iload 3, .aload 0, .getfield 602, .iload 1, .iconst 7, .invokevirtual 42, .invokevirtual 97, .goto_w 7]),
  (85, [.iinc 3 1, .jsr_w 4]),
  (91, [.return_])]
/-- IceSearch$Masses.lessenCell(II)V -/
def am_b97 : List (Nat × List Instr) := [(0, [.iload 1, .invokestatic 14, .ifCond .eq 2, .goto_w 1]),
  (7, [.aload 0, .getfield 603, .iload 1, .aload 0, .getfield 603, .iload 1, .iaload, .iconst 100, .iload 2, .isub, .invokestatic 36, .iastore, .goto_w 2]),
  (26, [.return_])]
/-- IceSearch.left(II)I -/
def am_b98 : List (Nat × List Instr) := [(0, [.iload 1, .invokestatic 25, .ifCond .eq 2, .goto_w 1]),
  (7, [.aload 0, .iload 2, .invokevirtual 74, .ifCond .ne 3, .goto_w 2]),
  (15, [.iconst (-1), .ireturn]),
  (17, [.aload 0, .getfield 5, .iload 1, .iload 2, .iconst (-1), .invokevirtual 93, .aload 0, .getfield 5, .invokevirtual 99, .ireturn])]
/-- IceSearch$Masses.all()I -/
def am_b99 : List (Nat × List Instr) := [(0, [.iconst 0, .istore 1, .iconst 0, .istore 2, .ret 1]),
  (4, [.iload 2, .iconst 256, .if_icmp .ge 3, .goto_w 2]),
  (11, [.iload 1, .aload 0, .getfield 603, .iload 2, .iaload, .iadd, .istore 1, .iinc 2 1, .jsr_w 1]),
  (26, [.iload 1, .ireturn])]
/-- IceSearch.lead(IIII)I -/
def am_b100 : List (Nat × List Instr) := [(0, [.iload 1, .invokestatic 25, .ifCond .eq 4, .goto_w 1]),
  (7, [.iload 2, .invokestatic 14, .ifCond .eq 4, .goto_w 2]),
  (14, [.aload 0, .iload 3, .invokevirtual 74, .ifCond .eq 4, .goto_w 3]),
  (22, [.aload 0, .getfield 2, .iload 4, .invokevirtual 38, .ifCond .ne 5, .goto_w 4]),
  (34, [.iconst (-2000000000), .ireturn]),
  (38, [.aload 0, .getfield 5, .iload 1, .iload 2, .iload 3, .iconst (-1), .invokevirtual 92, .aload 0, .getfield 5, .iload 1, .iload 2, .iload 3, .iload 4, .invokevirtual 92, .isub, .ireturn])]
/-- IceSearch.ship(III)I -/
def am_b101 : List (Nat × List Instr) := [(0, [.aload 0, .getfield 6, .iload 1, .iload 2, .iload 3, .invokevirtual 102, .ireturn])]
/-- IceSearch$Fleet.add(III)I -/
def am_b102 : List (Nat × List Instr) := [(0, [.iload 1, .invokestatic 14, .ifCond .eq 6, .goto_w 1]),
  (7, [.iload 2, .ifCond .lt 6, .goto_w 2]),
  (11, [.iload 2, .iconst 20, .if_icmp .gt 6, .goto_w 3]),
  (17, [.iload 3, .iconst 1, .if_icmp .lt 6, .goto_w 4]),
  (22, [.iload 3, .iconst 100, .if_icmp .gt 6, .goto_w 5]),
  (28, [.iconst 1, .goto 7]),
  (32, [.iconst 0, .goto_w 7]),
  (33, [.istore 4, .iload 4, .ifCond .eq 9, .goto_w 8]),
  (40, [.aload 0, .getfield 712, .iconst 4, .if_icmp .lt 10, .goto_w 9]),
  (48, [.iconst (-1), .ireturn]),
  (50, [.aload 0, .getfield 701, .aload 0, .getfield 712, .iload 1, .iastore, .aload 0, .getfield 702, .aload 0, .getfield 712, .iload 2, .iastore, .aload 0, .getfield 703, .aload 0, .getfield 712, .iload 3, .iastore, .aload 0, .dup, .getfield 712, .iconst 1, .iadd, .putfield 712, .aload 0, .getfield 712, .iconst 1, .isub, .ireturn])]
/-- IceSearch.trip(II)I -/
def am_b103 : List (Nat × List Instr) := [(0, [.aload 0, .getfield 6, .iload 1, .invokevirtual 104, .ifCond .eq 2, .goto_w 1]),
  (11, [.iload 2, .invokestatic 14, .ifCond .ne 3, .goto_w 2]),
  (18, [.iconst (-1), .ireturn]),
  (20, [.aload 0, .getfield 0, .aload 0, .getfield 15, .invokevirtual 51, .aload 0, .getfield 6, .iload 1, .iload 2, .aload 0, .getfield 16, .invokevirtual 105, .ireturn])]
/-- IceSearch$Fleet.isShip(I)Z -/
def am_b104 : List (Nat × List Instr) := [(0, [.iload 1, .ifCond .lt 4, .goto_w 1]),
  (4, [.iload 1, .aload 0, .getfield 712, .if_icmp .ge 4, .goto_w 2]),
  (12, [.iload 1, .iconst 4, .if_icmp .ge 4, .goto_w 3]),
  (17, [.iconst 1, .goto 5]),
  (21, [.iconst 0, .goto_w 5]),
  (22, [.ireturn])]
/-- IceSearch$Fleet.movesTo(III)I -/
def am_b105 : List (Nat × List Instr) := [(0, [.aload 0, .iload 1, .iload 3, .invokevirtual 106, .iload 2, .invokestatic 14, .ifCond .eq 2, .goto_w 1]),
  (13, [.aload 0, .getfield 704, .iload 2, .iaload, .goto 3]),
  (22, [.iconst (-1), .goto_w 3]),
  (23, [.ireturn])]
/-- IceSearch$Fleet.sail(II)V -/
def am_b106 : List (Nat × List Instr) := [(0, [.aload 0, .getfield 704, .iconst (-1), .invokestatic 52, .aload 0, .iload 1, .invokevirtual 104, .ifCond .eq 2, .goto_w 1]),
  (16, [.aload 0, .getfield 701, .iload 1, .iaload, .invokestatic 14, .ifCond .ne 3, .goto_w 2]),
  (28, [.return_]),
  (29, [.aload 0, .getfield 704, .aload 0, .getfield 701, .iload 1, .iaload, .iconst 0, .iastore, .aload 0, .getfield 705, .iconst 0, .aload 0, .getfield 701, .iload 1, .iaload, .iastore, .iconst 1, .istore 3, .iconst 0, .istore 4, .ret 4]),
  (58, [.iload 4, .iload 3, .if_icmp .ge 10, .goto_w 5]),
  (64, [.iload 4, .iconst 256, .if_icmp .ge 10, .goto_w 6]),
  (72, [.aload 0, .getfield 705, .iload 4, .iaload, .istore 5, .iload 5, .invokestatic 14, .ifCond .eq 9, .goto_w 7]),
  (89, [.aload 0, .getfield 704, .iload 5, .iaload, .aload 0, .getfield 702, .iload 1, .iaload, .if_icmp .ge 9, .goto_w 8]),
  (105, [.aload 0, .iload 5, .iload 2, .iload 3, .invokevirtual 107, .istore 3, .goto_w 9]),
  (114, [.iinc 4 1, .jsr_w 4]),
  (120, [.return_])]
/-- IceSearch$Fleet.sailOn(III)I -/
def am_b107 : List (Nat × List Instr) := [(0, [.iload 3, .istore 4, .iconst 1, .istore 5, .ret 1]),
  (6, [.iload 5, .iconst 9, .if_icmp .ge 10, .goto_w 2]),
  (13, [.iload 1, .iload 5, .invokestatic 85, .istore 6, .aload 0, .getfield 700, .iload 6, .iload 2, .invokevirtual 58, .istore 7, .iload 6, .invokestatic 14, .ifCond .eq 9, .goto_w 3]),
  (41, [.aload 0, .getfield 704, .iload 6, .iaload, .iconst (-1), .if_icmp .ne 9, .goto_w 4]),
  (52, [.iload 7, .ifCond .ne 6, .goto_w 5]),
  (57, [.aload 0, .getfield 700, .iload 6, .invokevirtual 17, .ifCond .ne 9, .goto_w 6]),
  (69, [.aload 0, .getfield 704, .iload 6, .aload 0, .getfield 704, .iload 1, .iaload, .iconst 1, .iadd, .iastore, .iload 7, .ifCond .eq 9, .goto_w 7]),
  (89, [.iload 4, .iconst 256, .if_icmp .ge 9, .goto_w 8]),
  (97, [.aload 0, .getfield 705, .iload 4, .iload 6, .iastore, .iinc 4 1, .goto_w 9]),
  (109, [.iinc 5 1, .jsr_w 1]),
  (115, [.iload 4, .ireturn])]
/-- IceSearch.best(I)I -/
def am_b108 : List (Nat × List Instr) := [(0, [.iload 1, .iconst 10, .if_icmp .lt 3, .goto_w 1]),
  (6, [.aload 0, .getfield 6, .iload 1, .iconst 10, .isub, .invokevirtual 104, .ifCond .eq 3, .goto_w 2]),
  (20, [.iconst 1, .goto 4]),
  (24, [.iconst 0, .goto_w 4]),
  (25, [.istore 2, .iload 1, .ifCond .eq 7, .goto_w 5]),
  (30, [.iload 2, .ifCond .ne 7, .goto_w 6]),
  (34, [.iconst (-1), .ireturn]),
  (36, [.aload 0, .getfield 5, .aload 0, .getfield 15, .aload 0, .getfield 16, .iconst (-1), .invokevirtual 93, .aload 0, .getfield 6, .aload 0, .getfield 5, .getfield 603, .aload 0, .getfield 16, .invokevirtual 109, .iload 1, .ifCond .ne 9, .goto_w 8]),
  (74, [.aload 0, .getfield 6, .getfield 711, .goto 10]),
  (84, [.aload 0, .getfield 6, .iload 1, .iconst 10, .isub, .invokevirtual 116, .goto_w 10]),
  (95, [.ireturn])]
/-- IceSearch$Fleet.choose([II)V -/
def am_b109 : List (Nat × List Instr) := [(0, [.aload 0, .iconst (-1), .putfield 711, .aload 0, .getfield 712, .ifCond .ne 2, .goto_w 1]),
  (12, [.return_]),
  (13, [.iconst 1, .istore 3, .iconst 0, .istore 4, .ret 3]),
  (18, [.iload 4, .aload 0, .getfield 712, .if_icmp .ge 5, .goto_w 4]),
  (27, [.aload 0, .iload 4, .iload 2, .invokevirtual 106, .aload 0, .iload 4, .aload 1, .invokevirtual 110, .iload 3, .iconst 4, .imul, .istore 3, .iinc 4 1, .jsr_w 3]),
  (51, [.iconst 0, .istore 4, .ret 6]),
  (54, [.iload 4, .iload 3, .if_icmp .ge 13, .goto_w 7]),
  (60, [.aload 0, .iload 4, .invokevirtual 113, .istore 5, .iload 5, .iconst (-1), .if_icmp .eq 12, .goto_w 8]),
  (74, [.iload 5, .aload 0, .getfield 711, .if_icmp .gt 11, .goto_w 9]),
  (83, [.iload 5, .aload 0, .getfield 711, .if_icmp .ne 12, .goto_w 10]),
  (92, [.aload 0, .invokevirtual 115, .ifCond .eq 12, .goto_w 11]),
  (99, [.aload 0, .iload 5, .putfield 711, .aload 0, .getfield 709, .iconst 0, .aload 0, .getfield 710, .iconst 0, .aload 0, .getfield 712, .invokedynamic 0, .goto_w 12]),
  (122, [.iinc 4 1, .jsr_w 6]),
  (128, [.return_])]
/-- IceSearch$Fleet.readTops(I[I)V -/
def am_b110 : List (Nat × List Instr) := [(0, [.aload 0, .getfield 708, .iload 1, .iconst 0, .iastore, .iconst 0, .istore 3, .ret 1]),
  (9, [.iload 3, .iconst 256, .if_icmp .ge 6, .goto_w 2]),
  (16, [.iload 3, .aload 2, .arraylength, .if_icmp .ge 6, .goto_w 3]),
  (22, [.aload 0, .getfield 704, .iload 3, .iaload, .iconst (-1), .if_icmp .eq 5, .goto_w 4]),
  (32, [.aload 0, .iload 1, .iload 3, .aload 2, .iload 3, .iaload, .aload 0, .getfield 703, .iload 1, .iaload, .invokestatic 36, .invokevirtual 111, .goto_w 5]),
  (50, [.iinc 3 1, .jsr_w 1]),
  (56, [.return_])]
/-- IceSearch$Fleet.putTop(III)V -/
def am_b111 : List (Nat × List Instr) := [(0, [.iload 1, .iconst 4, .imul, .istore 4, .aload 0, .getfield 708, .iload 1, .iaload, .istore 5, .ret 1]),
  (13, [.iload 5, .ifCond .le 4, .goto_w 2]),
  (18, [.aload 0, .getfield 707, .iload 4, .iload 5, .iadd, .iconst 1, .isub, .iaload, .iload 3, .if_icmp .ge 4, .goto_w 3]),
  (34, [.iinc 5 (-1), .jsr_w 1]),
  (40, [.iload 5, .iconst 4, .if_icmp .lt 6, .goto_w 5]),
  (46, [.return_]),
  (47, [.aload 0, .getfield 708, .iload 1, .iaload, .iconst 3, .invokestatic 112, .istore 6, .ret 7]),
  (59, [.iload 6, .iload 5, .if_icmp .le 9, .goto_w 8]),
  (66, [.aload 0, .getfield 706, .iload 4, .iload 6, .iadd, .aload 0, .getfield 706, .iload 4, .iload 6, .iadd, .iconst 1, .isub, .iaload, .iastore, .aload 0, .getfield 707, .iload 4, .iload 6, .iadd, .aload 0, .getfield 707, .iload 4, .iload 6, .iadd, .iconst 1, .isub, .iaload, .iastore, .iinc 6 (-1), .jsr_w 7]),
  (116, [.aload 0, .getfield 706, .iload 4, .iload 5, .iadd, .iload 2, .iastore, .aload 0, .getfield 707, .iload 4, .iload 5, .iadd, .iload 3, .iastore, .aload 0, .getfield 708, .iload 1, .aload 0, .getfield 708, .iload 1, .iaload, .iconst 1, .iadd, .iconst 4, .invokestatic 112, .iastore, .return_])]
/-- java/lang/Math.min(II)I -/
def am_b112 : List (Nat × List Instr) := [(0, [.iload 0, .iload 1, .if_icmp .gt 2, .goto_w 1]),
  (5, [.iload 0, .goto 3]),
  (9, [.iload 1, .goto_w 3]),
  (10, [.ireturn])]
/-- IceSearch$Fleet.sumOf(I)I -/
def am_b113 : List (Nat × List Instr) := [(0, [.iload 1, .istore 2, .iconst 0, .istore 3, .iconst 0, .istore 4, .ret 1]),
  (7, [.iload 4, .aload 0, .getfield 712, .if_icmp .ge 7, .goto_w 2]),
  (16, [.iload 2, .iconst 4, .irem, .istore 5, .iload 2, .iconst 4, .idiv, .istore 2, .iload 5, .aload 0, .getfield 708, .iload 4, .iaload, .if_icmp .lt 4, .goto_w 3]),
  (37, [.iconst (-1), .ireturn]),
  (39, [.aload 0, .getfield 709, .iload 4, .aload 0, .getfield 706, .iload 4, .iconst 4, .imul, .iload 5, .iadd, .iaload, .iastore, .aload 0, .aload 0, .getfield 709, .iload 4, .iaload, .iload 4, .invokevirtual 114, .ifCond .eq 6, .goto_w 5]),
  (74, [.iconst (-1), .ireturn]),
  (76, [.iload 3, .aload 0, .getfield 707, .iload 4, .iconst 4, .imul, .iload 5, .iadd, .iaload, .iadd, .istore 3, .iinc 4 1, .jsr_w 1]),
  (97, [.iload 3, .ireturn])]
/-- IceSearch$Fleet.isTaken(II)Z -/
def am_b114 : List (Nat × List Instr) := [(0, [.iconst 0, .istore 3, .ret 1]),
  (2, [.iload 3, .iload 2, .if_icmp .ge 5, .goto_w 2]),
  (7, [.aload 0, .getfield 709, .iload 3, .iaload, .iload 1, .if_icmp .ne 4, .goto_w 3]),
  (17, [.iconst 1, .ireturn]),
  (19, [.iinc 3 1, .jsr_w 1]),
  (25, [.iconst 0, .ireturn])]
/-- IceSearch$Fleet.isRowLess()Z -/
def am_b115 : List (Nat × List Instr) := [(0, [.iconst 0, .istore 1, .ret 1]),
  (2, [.iload 1, .aload 0, .getfield 712, .if_icmp .ge 8, .goto_w 2]),
  (10, [.aload 0, .getfield 709, .iload 1, .iaload, .aload 0, .getfield 710, .iload 1, .iaload, .if_icmp .eq 7, .goto_w 3]),
  (25, [.aload 0, .getfield 709, .iload 1, .iaload, .aload 0, .getfield 710, .iload 1, .iaload, .if_icmp .ge 5, .goto_w 4]),
  (40, [.iconst 1, .goto 6]),
  (44, [.iconst 0, .goto_w 6]),
  (45, [.ireturn]),
  (46, [.iinc 1 1, .jsr_w 1]),
  (52, [.iconst 0, .ireturn])]
/-- IceSearch$Fleet.bestCell(I)I -/
def am_b116 : List (Nat × List Instr) := [(0, [.aload 0, .iload 1, .invokevirtual 104, .ifCond .eq 3, .goto_w 1]),
  (8, [.aload 0, .getfield 711, .iconst (-1), .if_icmp .eq 3, .goto_w 2]),
  (16, [.aload 0, .getfield 710, .iload 1, .iaload, .goto 4]),
  (25, [.iconst (-1), .goto_w 4]),
  (26, [.ireturn])]
/-- IceSearch.feed(IIIII)I -/
def am_b117 : List (Nat × List Instr) := [(0, [.aload 0, .getfield 8, .invokevirtual 118, .ifCond .ne 2, .goto_w 1]),
  (10, [.iconst (-1), .ireturn]),
  (12, [.aload 0, .getfield 8, .iload 1, .invokevirtual 119, .aload 0, .getfield 8, .iload 2, .invokevirtual 119, .aload 0, .getfield 8, .iload 3, .invokevirtual 119, .aload 0, .getfield 8, .iload 4, .invokevirtual 119, .aload 0, .getfield 8, .iload 5, .invokevirtual 119, .aload 0, .getfield 8, .getfield 904, .ireturn])]
/-- IceSearch$Tape.hasRoom()Z -/
def am_b118 : List (Nat × List Instr) := [(0, [.aload 0, .getfield 904, .iconst 20, .iadd, .iconst 700, .if_icmp .gt 2, .goto_w 1]),
  (13, [.iconst 1, .goto 3]),
  (17, [.iconst 0, .goto_w 3]),
  (18, [.ireturn])]
/-- IceSearch$Tape.put(I)V -/
def am_b119 : List (Nat × List Instr) := [(0, [.iconst 24, .istore 2, .ret 1]),
  (3, [.iload 2, .ifCond .lt 4, .goto_w 2]),
  (7, [.aload 0, .getfield 904, .iconst 700, .if_icmp .ge 4, .goto_w 3]),
  (17, [.aload 0, .getfield 900, .aload 0, .getfield 904, .iload 1, .iload 2, .iushr, .i2b, .bastore, .aload 0, .dup, .getfield 904, .iconst 1, .iadd, .putfield 904, .iinc 2 (-8), .jsr_w 1]),
  (46, [.return_])]
/-- IceSearch.rules(I)I -/
def am_b120 : List (Nat × List Instr) := [(0, [.aload 0, .getfield 8, .iload 1, .invokevirtual 121, .ifCond .ne 2, .goto_w 1]),
  (11, [.iconst (-2), .ireturn]),
  (14, [.aload 0, .getfield 14, .iconst 8, .if_icmp .lt 4, .goto_w 3]),
  (23, [.iconst (-3), .ireturn]),
  (26, [.aload 0, .getfield 9, .iload 1, .aload 0, .getfield 15, .invokevirtual 122, .astore 2, .aload 2, .ifnonnull 6, .goto_w 5]),
  (43, [.iconst (-1), .ireturn]),
  (45, [.aload 0, .getfield 11, .aload 0, .getfield 14, .aload 2, .aastore, .aload 0, .dup, .getfield 14, .iconst 1, .iadd, .putfield 14, .aload 0, .getfield 14, .iconst 1, .isub, .ireturn])]
/-- IceSearch$Tape.hasFed(I)Z -/
def am_b121 : List (Nat × List Instr) := [(0, [.iload 1, .ifCond .lt 3, .goto_w 1]),
  (4, [.iload 1, .aload 0, .getfield 904, .if_icmp .gt 3, .goto_w 2]),
  (12, [.iconst 1, .goto 4]),
  (16, [.iconst 0, .goto_w 4]),
  (17, [.ireturn])]
/-- IceSearch$Reader.take(II)LIceSearch$Rules. -/
def am_b122 : List (Nat × List Instr) := [(0, [.aload 0, .getfield 1000, .iload 1, .invokevirtual 123, .aload 0, .iconst 0, .putfield 1003, .aload 0, .aload 0, .getfield 1000, .iconst 0, .invokevirtual 145, .putfield 1004, .aload 0, .iconst 0, .putfield 1005, .aload 0, .iconst 0, .putfield 1006, .iconst 1, .istore 3, .iconst 0, .istore 4, .ret 1]),
  (40, [.iload 4, .iconst 30, .if_icmp .ge 5, .goto_w 2]),
  (47, [.iload 3, .ifCond .eq 5, .goto_w 3]),
  (51, [.aload 0, .getfield 1004, .iconst 40, .if_icmp .eq 5, .goto_w 4]),
  (60, [.aload 0, .invokevirtual 146, .istore 3, .iinc 4 1, .jsr_w 1]),
  (71, [.iload 3, .ifCond .eq 8, .goto_w 6]),
  (75, [.aload 0, .getfield 1004, .iconst 40, .if_icmp .ne 8, .goto_w 7]),
  (84, [.iconst 1, .goto 9]),
  (88, [.iconst 0, .goto_w 9]),
  (89, [.istore 3, .aload 0, .iload 3, .ifCond .eq 11, .goto_w 10]),
  (95, [.iconst (-1), .goto 12]),
  (99, [.aload 0, .getfield 1000, .aload 0, .getfield 1003, .invokevirtual 154, .goto_w 12]),
  (110, [.putfield 1007, .iload 3, .ifCond .ne 14, .goto_w 13]),
  (117, [.aconst_null, .areturn]),
  (119, [.aload 0, .getfield 1001, .aload 0, .getfield 1005, .iconst 5, .imul, .invokestatic 155, .astore 4, .new 11, .dup, .iload 2, .aload 0, .getfield 1005, .aload 4, .aload 0, .getfield 1002, .aload 0, .getfield 1006, .invokestatic 155, .invokespecial 11, .areturn])]
/-- IceSearch$Tape.scan(I)V -/
def am_b123 : List (Nat × List Instr) := [(0, [.iconst 0, .iload 1, .aload 0, .getfield 904, .invokestatic 112, .invokestatic 67, .istore 2, .iconst 0, .istore 3, .aload 0, .iconst 0, .putfield 903, .ret 1]),
  (20, [.iload 3, .iload 2, .if_icmp .ge 5, .goto_w 2]),
  (25, [.iload 3, .iconst 1, .iadd, .aload 0, .iload 3, .iload 2, .invokevirtual 124, .invokestatic 67, .istore 4, .aload 0, .getfield 900, .iload 3, .baload, .invokestatic 127, .ifCond .ne 4, .goto_w 3]),
  (51, [.aload 0, .aload 0, .iload 3, .iload 4, .invokevirtual 128, .iload 3, .invokevirtual 144, .goto_w 4]),
  (63, [.iload 4, .istore 3, .jsr_w 1]),
  (69, [.aload 0, .iconst 40, .iload 2, .invokevirtual 144, .aload 0, .iconst 0, .putfield 904, .return_])]
/-- IceSearch$Tape.endOfRun(II)I -/
def am_b124 : List (Nat × List Instr) := [(0, [.iload 1, .istore 3, .aload 0, .getfield 900, .iload 1, .baload, .invokestatic 125, .istore 4, .ret 1]),
  (13, [.iload 3, .iload 2, .if_icmp .ge 7, .goto_w 2]),
  (18, [.iload 4, .ifCond .eq 5, .goto_w 3]),
  (23, [.aload 0, .getfield 900, .iload 3, .baload, .invokestatic 125, .ifCond .eq 7, .goto_w 4]),
  (35, [.goto 6]),
  (38, [.aload 0, .getfield 900, .iload 3, .baload, .invokestatic 126, .ifCond .eq 7, .goto_w 6]),
  (50, [.iinc 3 1, .jsr_w 1]),
  (56, [.iload 3, .ireturn])]
/-- IceSearch$Tape.isLetter(B)Z -/
def am_b125 : List (Nat × List Instr) := [(0, [.iload 0, .iconst 97, .if_icmp .lt 3, .goto_w 1]),
  (6, [.iload 0, .iconst 122, .if_icmp .gt 3, .goto_w 2]),
  (12, [.iconst 1, .goto 4]),
  (16, [.iconst 0, .goto_w 4]),
  (17, [.ireturn])]
/-- IceSearch$Tape.isDigit(B)Z -/
def am_b126 : List (Nat × List Instr) := [(0, [.iload 0, .iconst 48, .if_icmp .lt 3, .goto_w 1]),
  (6, [.iload 0, .iconst 57, .if_icmp .gt 3, .goto_w 2]),
  (12, [.iconst 1, .goto 4]),
  (16, [.iconst 0, .goto_w 4]),
  (17, [.ireturn])]
/-- IceSearch$Tape.isBlank(B)Z -/
def am_b127 : List (Nat × List Instr) := [(0, [.iload 0, .iconst 32, .if_icmp .eq 2, .goto_w 1]),
  (6, [.iload 0, .iconst 10, .if_icmp .ne 3, .goto_w 2]),
  (12, [.iconst 1, .goto 4]),
  (16, [.iconst 0, .goto_w 4]),
  (17, [.ireturn])]
/-- IceSearch$Tape.tokenOf(II)I -/
def am_b128 : List (Nat × List Instr) := [(0, [.aload 0, .getfield 900, .iload 1, .baload, .invokestatic 125, .ifCond .eq 2, .goto_w 1]),
  (12, [.aload 0, .iload 1, .iload 2, .invokevirtual 129, .ireturn]),
  (19, [.aload 0, .getfield 900, .iload 1, .baload, .invokestatic 126, .ifCond .eq 7, .goto_w 3]),
  (31, [.iload 2, .iload 1, .isub, .iconst 5, .if_icmp .gt 5, .goto_w 4]),
  (38, [.iconst 1000, .aload 0, .iload 1, .iload 2, .invokevirtual 138, .iadd, .goto 6]),
  (51, [.iconst 41, .goto_w 6]),
  (53, [.ireturn]),
  (54, [.ldc 6, .aload 0, .getfield 900, .iload 1, .baload, .iconst 255, .iand, .i2c, .invokevirtual 139, .istore 3, .iload 3, .ifCond .lt 9, .goto_w 8]),
  (75, [.iconst 30, .iload 3, .iadd, .goto 10]),
  (82, [.iconst 41, .goto_w 10]),
  (84, [.ireturn])]
/-- IceSearch$Tape.wordOf(II)I -/
def am_b129 : List (Nat × List Instr) := [(0, [.iconst 0, .istore 3, .iconst 0, .istore 4, .iconst 0, .istore 5, .ret 1]),
  (8, [.iload 5, .ldc 5, .invokevirtual 130, .if_icmp .ge 8, .goto_w 2]),
  (18, [.ldc 5, .iload 5, .invokevirtual 132, .iconst 32, .if_icmp .ne 7, .goto_w 3]),
  (30, [.iload 2, .iload 1, .isub, .iload 5, .iload 4, .isub, .if_icmp .ne 6, .goto_w 4]),
  (41, [.aload 0, .iload 1, .iload 4, .iload 2, .iload 1, .isub, .invokevirtual 137, .ifCond .eq 6, .goto_w 5]),
  (54, [.iload 3, .ireturn]),
  (56, [.iinc 3 1, .iload 5, .iconst 1, .iadd, .istore 4, .goto_w 7]),
  (65, [.iinc 5 1, .jsr_w 1]),
  (71, [.iconst 41, .ireturn])]
/-- java/lang/String.length()I -/
def am_b130 : List (Nat × List Instr) := [(0, [.aload 0, .getfield 1300, .arraylength, .aload 0, .invokevirtual 131, .ishr, .ireturn])]
/-- java/lang/String.coder()B -/
def am_b131 : List (Nat × List Instr) := [(0, [.getstatic 4, .ifCond .eq 2, .goto_w 1]),
  (6, [.aload 0, .getfield 1301, .goto 3]),
  (13, [.iconst 1, .goto_w 3]),
  (14, [.ireturn])]
/-- java/lang/String.charAt(I)C -/
def am_b132 : List (Nat × List Instr) := [(0, [.aload 0, .invokevirtual 133, .ifCond .eq 2, .goto_w 1]),
  (7, [.aload 0, .getfield 1300, .iload 1, .invokestatic 134, .ireturn]),
  (16, [.aload 0, .getfield 1300, .iload 1])]
/-- java/lang/String.isLatin1()Z -/
def am_b133 : List (Nat × List Instr) := [(0, [.getstatic 4, .ifCond .eq 3, .goto_w 1]),
  (6, [.aload 0, .getfield 1301, .ifCond .ne 3, .goto_w 2]),
  (13, [.iconst 1, .goto 4]),
  (17, [.iconst 0, .goto_w 4]),
  (18, [.ireturn])]
/-- java/lang/StringLatin1.charAt([BI)C -/
def am_b134 : List (Nat × List Instr) := [(0, [.iload 1, .aload 0, .arraylength, .invokestatic 135, .aload 0, .iload 1, .baload, .iconst 255, .iand, .i2c, .ireturn])]
/-- java/lang/String.checkIndex(II)V -/
def am_b135 : List (Nat × List Instr) := [(0, [.iload 0, .iload 1, .getstatic 5, .invokestatic 136, .pop, .return_])]
/-- jdk/internal/util/Preconditions.checkIndex(IILjava/util/function/BiFunction.)I -/
def am_b136 : List (Nat × List Instr) := [(0, [.iload 0, .ifCond .lt 2, .goto_w 1]),
  (4, [.iload 0, .iload 1, .if_icmp .lt 3, .goto_w 2]),
  (9, [.aload 2, .iload 0, .iload 1]),
  (16, [.iload 0, .ireturn])]
/-- IceSearch$Tape.isSpelt(III)Z -/
def am_b137 : List (Nat × List Instr) := [(0, [.iconst 0, .istore 4, .ret 1]),
  (3, [.iload 4, .iload 3, .if_icmp .ge 5, .goto_w 2]),
  (9, [.ldc 5, .iload 2, .iload 4, .iadd, .invokevirtual 132, .aload 0, .getfield 900, .iload 1, .iload 4, .iadd, .baload, .iconst 255, .iand, .i2c, .if_icmp .eq 4, .goto_w 3]),
  (35, [.iconst 0, .ireturn]),
  (37, [.iinc 4 1, .jsr_w 1]),
  (43, [.iconst 1, .ireturn])]
/-- IceSearch$Tape.numberOf(II)I -/
def am_b138 : List (Nat × List Instr) := [(0, [.iconst 0, .istore 3, .iload 1, .istore 4, .ret 1]),
  (5, [.iload 4, .iload 2, .if_icmp .ge 3, .goto_w 2]),
  (11, [.iload 3, .iconst 10, .imul, .aload 0, .getfield 900, .iload 4, .baload, .iconst 48, .isub, .iadd, .istore 3, .iinc 4 1, .jsr_w 1]),
  (33, [.iload 3, .ireturn])]
/-- java/lang/String.indexOf(I)I -/
def am_b139 : List (Nat × List Instr) := [(0, [.aload 0, .iload 1, .iconst 0, .invokevirtual 140, .ireturn])]
/-- java/lang/String.indexOf(II)I -/
def am_b140 : List (Nat × List Instr) := [(0, [.aload 0, .invokevirtual 133, .ifCond .eq 2, .goto_w 1]),
  (7, [.aload 0, .getfield 1300, .iload 1, .iload 2, .aload 0, .invokevirtual 130, .invokestatic 141, .goto 3]),
  (23, [.aload 0, .getfield 1300, .iload 1, .iload 2, .aload 0, .invokevirtual 130]),
  (36, [.ireturn])]
/-- java/lang/StringLatin1.indexOf([BIII)I -/
def am_b141 : List (Nat × List Instr) := [(0, [.iload 1, .invokestatic 142, .ifCond .ne 2, .goto_w 1]),
  (7, [.iconst (-1), .ireturn]),
  (9, [.iload 2, .iconst 0, .invokestatic 67, .istore 2, .iload 3, .aload 0, .arraylength, .invokestatic 112, .istore 3, .iload 2, .iload 3, .if_icmp .lt 4, .goto_w 3]),
  (27, [.iconst (-1), .ireturn]),
  (29, [.aload 0, .iload 1, .iload 2, .iload 3, .invokestatic 143, .ireturn])]
/-- java/lang/StringLatin1.canEncode(I)Z -/
def am_b142 : List (Nat × List Instr) := [(0, [.iload 0, .ifCond .lt 3, .goto_w 1]),
  (4, [.iload 0, .iconst 255, .if_icmp .gt 3, .goto_w 2]),
  (11, [.iconst 1, .goto 4]),
  (15, [.iconst 0, .goto_w 4]),
  (16, [.ireturn])]
/-- java/lang/StringLatin1.indexOfChar([BIII)I -/
def am_b143 : List (Nat × List Instr) := [(0, [.iload 1, .i2b, .istore 4, .iload 2, .istore 5, .ret 1]),
  (7, [.iload 5, .iload 3, .if_icmp .ge 5, .goto_w 2]),
  (13, [.aload 0, .iload 5, .baload, .iload 4, .if_icmp .ne 4, .goto_w 3]),
  (22, [.iload 5, .ireturn]),
  (25, [.iinc 5 1, .jsr_w 1]),
  (31, [.iconst (-1), .ireturn])]
/-- IceSearch$Tape.addToken(II)V -/
def am_b144 : List (Nat × List Instr) := [(0, [.aload 0, .getfield 903, .aload 0, .getfield 901, .arraylength, .if_icmp .ge 2, .goto_w 1]),
  (12, [.aload 0, .getfield 901, .aload 0, .getfield 903, .iload 1, .iastore, .aload 0, .getfield 902, .aload 0, .getfield 903, .iload 2, .iastore, .aload 0, .dup, .getfield 903, .iconst 1, .iadd, .putfield 903, .goto_w 2]),
  (42, [.return_])]
/-- IceSearch$Tape.tokenAt(I)I -/
def am_b145 : List (Nat × List Instr) := [(0, [.iload 1, .ifCond .lt 3, .goto_w 1]),
  (4, [.iload 1, .aload 0, .getfield 903, .if_icmp .ge 3, .goto_w 2]),
  (12, [.aload 0, .getfield 901, .iload 1, .iaload, .goto 4]),
  (21, [.iconst 40, .goto_w 4]),
  (23, [.ireturn])]
/-- IceSearch$Reader.readLine()Z -/
def am_b146 : List (Nat × List Instr) := [(0, [.aload 0, .getfield 1005, .iconst 30, .if_icmp .lt 2, .goto_w 1]),
  (9, [.iconst 0, .ireturn]),
  (11, [.aload 0, .getfield 1005, .iconst 5, .imul, .istore 1, .aload 0, .getfield 1001, .iload 1, .iconst 0, .iadd, .aload 0, .getfield 1004, .iastore, .aload 0, .iload 1, .invokevirtual 147, .ifCond .ne 4, .goto_w 3]),
  (38, [.iconst 0, .ireturn]),
  (40, [.aload 0, .getfield 1001, .iload 1, .iconst 3, .iadd, .aload 0, .getfield 1006, .iastore, .aload 0, .iconst 23, .iconst 1, .invokevirtual 148, .ifCond .eq 6, .goto_w 5]),
  (62, [.aload 0, .iconst 0, .invokevirtual 149, .ifCond .eq 7, .goto_w 6]),
  (70, [.aload 0, .iconst 30, .iconst 1, .invokevirtual 148, .ifCond .ne 8, .goto_w 7]),
  (80, [.iconst 0, .ireturn]),
  (82, [.aload 0, .getfield 1001, .iload 1, .iconst 4, .iadd, .aload 0, .getfield 1006, .iastore, .aload 0, .dup, .getfield 1005, .iconst 1, .iadd, .putfield 1005, .iconst 1, .ireturn])]
/-- IceSearch$Reader.readRule(I)Z -/
def am_b147 : List (Nat × List Instr) := [(0, [.iconst (-1), .istore 2, .iconst 0, .istore 3, .aload 0, .iconst 17, .iconst 1, .invokevirtual 148, .ifCond .ne 2, .goto_w 1]),
  (14, [.aload 0, .iconst 18, .iconst 1, .invokevirtual 148, .ifCond .eq 4, .goto_w 2]),
  (24, [.aload 0, .getfield 1004, .iconst 4, .isub, .istore 2, .aload 0, .iconst 4, .iconst 4, .invokevirtual 148, .ifCond .ne 13, .goto_w 3]),
  (40, [.iconst 0, .ireturn]),
  (42, [.aload 0, .iconst 21, .iconst 1, .invokevirtual 148, .ifCond .eq 10, .goto_w 5]),
  (52, [.aload 0, .getfield 1004, .iconst 1000, .isub, .istore 3, .aload 0, .iconst 1000, .iconst 100000, .invokevirtual 148, .ifCond .eq 7, .goto_w 6]),
  (73, [.aload 0, .iconst 22, .iconst 1, .invokevirtual 148, .ifCond .ne 8, .goto_w 7]),
  (83, [.iconst 0, .ireturn]),
  (85, [.aload 0, .getfield 1004, .iconst 12, .isub, .istore 2, .aload 0, .iconst 12, .iconst 5, .invokevirtual 148, .ifCond .ne 13, .goto_w 9]),
  (103, [.iconst 0, .ireturn]),
  (105, [.aload 0, .iconst 19, .iconst 1, .invokevirtual 148, .ifCond .ne 13, .goto_w 11]),
  (115, [.aload 0, .iconst 20, .iconst 1, .invokevirtual 148, .ifCond .ne 13, .goto_w 12]),
  (125, [.iconst 0, .ireturn]),
  (127, [.aload 0, .getfield 1001, .iload 1, .iconst 1, .iadd, .iload 2, .iastore, .aload 0, .getfield 1001, .iload 1, .iconst 2, .iadd, .iload 3, .iastore, .iconst 1, .ireturn])]
/-- IceSearch$Reader.skip(II)Z -/
def am_b148 : List (Nat × List Instr) := [(0, [.aload 0, .getfield 1004, .iload 1, .if_icmp .lt 2, .goto_w 1]),
  (8, [.aload 0, .getfield 1004, .iload 1, .iload 2, .iadd, .if_icmp .lt 3, .goto_w 2]),
  (18, [.iconst 0, .ireturn]),
  (20, [.aload 0, .dup, .getfield 1003, .iconst 1, .iadd, .putfield 1003, .aload 0, .aload 0, .getfield 1000, .aload 0, .getfield 1003, .invokevirtual 145, .putfield 1004, .iconst 1, .ireturn])]
/-- IceSearch$Reader.readAny(I)Z -/
def am_b149 : List (Nat × List Instr) := [(0, [.aload 0, .iload 1, .invokevirtual 150, .ifCond .ne 2, .goto_w 1]),
  (8, [.iconst 0, .ireturn]),
  (10, [.iconst 0, .istore 2, .ret 3]),
  (12, [.iload 2, .iconst 700, .if_icmp .ge 8, .goto_w 4]),
  (19, [.aload 0, .iconst 25, .iconst 1, .invokevirtual 148, .ifCond .eq 8, .goto_w 5]),
  (29, [.aload 0, .iload 1, .invokevirtual 150, .ifCond .ne 7, .goto_w 6]),
  (37, [.iconst 0, .ireturn]),
  (39, [.aload 0, .iconst (-2), .invokevirtual 153, .iinc 2 1, .jsr_w 3]),
  (51, [.iconst 1, .ireturn])]
/-- IceSearch$Reader.readAll(I)Z -/
def am_b150 : List (Nat × List Instr) := [(0, [.aload 0, .iload 1, .invokevirtual 151, .ifCond .ne 2, .goto_w 1]),
  (8, [.iconst 0, .ireturn]),
  (10, [.iconst 0, .istore 2, .ret 3]),
  (12, [.iload 2, .iconst 700, .if_icmp .ge 8, .goto_w 4]),
  (19, [.aload 0, .iconst 24, .iconst 1, .invokevirtual 148, .ifCond .eq 8, .goto_w 5]),
  (29, [.aload 0, .iload 1, .invokevirtual 151, .ifCond .ne 7, .goto_w 6]),
  (37, [.iconst 0, .ireturn]),
  (39, [.aload 0, .iconst (-1), .invokevirtual 153, .iinc 2 1, .jsr_w 3]),
  (50, [.iconst 1, .ireturn])]
/-- IceSearch$Reader.readOne(I)Z -/
def am_b151 : List (Nat × List Instr) := [(0, [.aload 0, .getfield 1004, .iconst 26, .if_icmp .eq 3, .goto_w 1]),
  (9, [.aload 0, .getfield 1004, .iconst 31, .if_icmp .eq 3, .goto_w 2]),
  (18, [.aload 0, .invokevirtual 152, .ireturn]),
  (23, [.iload 1, .iconst 10, .if_icmp .lt 5, .goto_w 4]),
  (29, [.iconst 0, .ireturn]),
  (31, [.aload 0, .iconst 31, .iconst 1, .invokevirtual 148, .ifCond .eq 11, .goto_w 6]),
  (41, [.aload 0, .iload 1, .iconst 1, .iadd, .invokevirtual 149, .ifCond .eq 9, .goto_w 7]),
  (51, [.aload 0, .iconst 32, .iconst 1, .invokevirtual 148, .ifCond .eq 9, .goto_w 8]),
  (61, [.iconst 1, .goto 10]),
  (65, [.iconst 0, .goto_w 10]),
  (66, [.ireturn]),
  (67, [.aload 0, .iconst 26, .iconst 1, .invokevirtual 148, .ifCond .eq 13, .goto_w 12]),
  (77, [.aload 0, .iload 1, .iconst 1, .iadd, .invokevirtual 151, .ifCond .ne 14, .goto_w 13]),
  (87, [.iconst 0, .ireturn]),
  (89, [.aload 0, .iconst (-3), .invokevirtual 153, .iconst 1, .ireturn])]
/-- IceSearch$Reader.readComparison()Z -/
def am_b152 : List (Nat × List Instr) := [(0, [.aload 0, .getfield 1004, .istore 1, .aload 0, .iconst 0, .iconst 12, .invokevirtual 148, .ifCond .ne 2, .goto_w 1]),
  (15, [.iconst 0, .ireturn]),
  (17, [.aload 0, .getfield 1004, .iconst 33, .isub, .istore 2, .aload 0, .iconst 33, .iconst 3, .invokevirtual 148, .ifCond .ne 4, .goto_w 3]),
  (35, [.iconst 0, .ireturn]),
  (37, [.aload 0, .getfield 1004, .iconst 1000, .isub, .istore 3, .aload 0, .iconst 1000, .iconst 100000, .invokevirtual 148, .ifCond .ne 6, .goto_w 5]),
  (58, [.iconst 0, .ireturn]),
  (60, [.aload 0, .iload 1, .iconst 3, .imul, .iload 2, .iadd, .iconst 100000, .imul, .iload 3, .iadd, .invokevirtual 153, .iconst 1, .ireturn])]
/-- IceSearch$Reader.putCode(I)V -/
def am_b153 : List (Nat × List Instr) := [(0, [.aload 0, .getfield 1006, .aload 0, .getfield 1002, .arraylength, .if_icmp .ge 2, .goto_w 1]),
  (12, [.aload 0, .getfield 1002, .aload 0, .getfield 1006, .iload 1, .iastore, .aload 0, .dup, .getfield 1006, .iconst 1, .iadd, .putfield 1006, .goto_w 2]),
  (32, [.return_])]
/-- IceSearch$Tape.placeOf(I)I -/
def am_b154 : List (Nat × List Instr) := [(0, [.iload 1, .ifCond .lt 3, .goto_w 1]),
  (4, [.iload 1, .aload 0, .getfield 903, .if_icmp .ge 3, .goto_w 2]),
  (12, [.aload 0, .getfield 902, .iload 1, .iaload, .goto 4]),
  (21, [.iconst (-1), .goto_w 4]),
  (22, [.ireturn])]
/-- java/util/Arrays.copyOf([II)[I -/
def am_b155 : List (Nat × List Instr) := [(0, [.iload 1, .aload 0, .arraylength, .if_icmp .ne 2, .goto_w 1]),
  (6, [.aload 0, .invokedynamic 1, .checkcast 0, .areturn]),
  (14, [.iload 1, .newarray .int, .astore 2, .aload 0, .iconst 0, .aload 2, .iconst 0, .aload 0, .arraylength, .iload 1, .invokestatic 112, .invokedynamic 0, .aload 2, .areturn])]
/-- IceSearch.beside(I)I -/
def am_b156 : List (Nat × List Instr) := [(0, [.aload 0, .getfield 8, .iload 1, .invokevirtual 121, .ifCond .ne 2, .goto_w 1]),
  (11, [.iconst (-2), .ireturn]),
  (14, [.aload 0, .aload 0, .getfield 9, .iload 1, .aload 0, .getfield 15, .invokevirtual 122, .putfield 13, .aload 0, .getfield 13, .ifnonnull 4, .goto_w 3]),
  (37, [.iconst (-1), .goto 5]),
  (41, [.iconst 0, .goto_w 5]),
  (42, [.ireturn])]
/-- IceSearch.fault()I -/
def am_b157 : List (Nat × List Instr) := [(0, [.aload 0, .getfield 9, .getfield 1007, .ireturn])]
/-- IceSearch.home(IZ)Z -/
def am_b158 : List (Nat × List Instr) := [(0, [.iload 1, .invokestatic 14, .ifCond .ne 2, .goto_w 1]),
  (7, [.iconst 0, .ireturn]),
  (9, [.aload 0, .getfield 0, .iload 1, .iload 2, .invokevirtual 159, .iconst 1, .ireturn])]
/-- IceSearch$Sea.tellHome(IZ)V -/
def am_b159 : List (Nat × List Instr) := [(0, [.iload 1, .invokestatic 14, .ifCond .eq 6, .goto_w 1]),
  (7, [.aload 0, .getfield 101, .iload 1, .baload, .iload 2, .if_icmp .eq 6, .goto_w 2]),
  (17, [.aload 0, .getfield 101, .iload 1, .iload 2, .bastore, .aload 0, .dup, .getfield 109, .iload 2, .ifCond .eq 4, .goto_w 3]),
  (33, [.iconst 1, .goto 5]),
  (37, [.iconst (-1), .goto_w 5]),
  (38, [.iadd, .putfield 109, .goto_w 6]),
  (42, [.return_])]
/-- IceSearch.would(II)I -/
def am_b160 : List (Nat × List Instr) := [(0, [.iload 2, .iconst 100, .if_icmp .lt 3, .goto_w 1]),
  (6, [.iload 2, .iconst 100, .isub, .aload 0, .getfield 16, .if_icmp .gt 3, .goto_w 2]),
  (17, [.iconst 1, .goto 4]),
  (21, [.iconst 0, .goto_w 4]),
  (22, [.istore 3, .iload 1, .invokestatic 25, .ifCond .eq 7, .goto_w 5]),
  (30, [.iload 3, .ifCond .ne 8, .goto_w 6]),
  (34, [.iload 2, .invokestatic 161, .ifCond .ne 8, .goto_w 7]),
  (41, [.iconst (-2), .ireturn]),
  (44, [.aload 0, .getfield 0, .iload 1, .invokevirtual 51, .aload 0, .getfield 7, .aload 0, .iload 1, .invokevirtual 162, .aload 0, .getfield 16, .invokevirtual 163, .iload 3, .ifCond .eq 10, .goto_w 9]),
  (72, [.aload 0, .getfield 7, .iload 2, .iconst 100, .isub, .invokevirtual 175, .goto 11]),
  (86, [.aload 0, .getfield 7, .iload 2, .invokevirtual 176, .goto_w 11]),
  (94, [.ireturn])]
/-- IceSearch.isAskedOfVoyage(I)Z -/
def am_b161 : List (Nat × List Instr) := [(0, [.iload 0, .ifCond .lt 3, .goto_w 1]),
  (4, [.iload 0, .iconst 4, .if_icmp .gt 3, .goto_w 2]),
  (9, [.iconst 1, .goto 4]),
  (13, [.iconst 0, .goto_w 4]),
  (14, [.ireturn])]
/-- IceSearch.rulesBy(I)LIceSearch$Rules. -/
def am_b162 : List (Nat × List Instr) := [(0, [.aload 0, .getfield 14, .iconst 1, .isub, .istore 2, .ret 1]),
  (7, [.iload 2, .ifCond .lt 6, .goto_w 2]),
  (11, [.aload 0, .getfield 11, .iload 2, .aaload, .astore 3, .aload 3, .ifnull 5, .goto_w 3]),
  (22, [.aload 3, .getfield 1100, .iload 1, .if_icmp .gt 5, .goto_w 4]),
  (30, [.aload 3, .areturn]),
  (32, [.iinc 2 (-1), .jsr_w 1]),
  (38, [.aload 0, .getfield 10, .areturn])]
/-- IceSearch$Voyage.sail(LIceSearch$Rules.I)V -/
def am_b163 : List (Nat × List Instr) := [(0, [.aload 0, .invokevirtual 89, .aload 0, .iconst 0, .invokevirtual 164, .iconst 1, .istore 3, .ret 1]),
  (11, [.iload 3, .iload 2, .if_icmp .gt 6, .goto_w 2]),
  (16, [.iload 3, .iconst 120, .if_icmp .ge 6, .goto_w 3]),
  (22, [.aload 0, .invokevirtual 90, .aload 0, .getfield 805, .ifCond .le 5, .goto_w 4]),
  (33, [.aload 0, .aload 1, .iload 3, .invokevirtual 166, .goto_w 5]),
  (39, [.aload 0, .iload 3, .invokevirtual 164, .iinc 3 1, .jsr_w 1]),
  (50, [.return_])]
/-- IceSearch$Voyage.arrive(I)V -/
def am_b164 : List (Nat × List Instr) := [(0, [.aload 0, .getfield 803, .iload 1, .aload 0, .getfield 804, .iastore, .aload 0, .getfield 808, .iconst (-1), .if_icmp .ne 4, .goto_w 1]),
  (18, [.aload 0, .getfield 805, .ifCond .le 4, .goto_w 2]),
  (25, [.aload 0, .getfield 800, .aload 0, .getfield 804, .invokevirtual 165, .ifCond .eq 4, .goto_w 3]),
  (39, [.aload 0, .iload 1, .putfield 808, .goto_w 4]),
  (44, [.return_])]
/-- IceSearch$Sea.isHomeCell(I)Z -/
def am_b165 : List (Nat × List Instr) := [(0, [.iload 1, .invokestatic 14, .ifCond .eq 3, .goto_w 1]),
  (7, [.aload 0, .getfield 101, .iload 1, .baload, .ifCond .eq 3, .goto_w 2]),
  (16, [.iconst 1, .goto 4]),
  (20, [.iconst 0, .goto_w 4]),
  (21, [.ireturn])]
/-- IceSearch$Voyage.obey(LIceSearch$Rules.I)V -/
def am_b166 : List (Nat × List Instr) := [(0, [.aload 0, .iload 2, .invokevirtual 167, .aload 1, .aload 0, .getfield 802, .invokevirtual 169, .istore 3, .aload 0, .getfield 804, .aload 1, .iload 3, .iconst 1, .invokevirtual 171, .invokestatic 168, .istore 4, .aload 1, .iload 3, .iconst 0, .invokevirtual 171, .tableswitch 12 17 20 #[2, 7, 12, 1]]),
  (64, [.aload 0, .iconst 1, .putfield 807, .goto 12]),
  (72, [.aload 0, .aload 0, .getfield 807, .ifCond .ne 5, .goto_w 3]),
  (80, [.aload 0, .getfield 800, .iload 4, .iload 2, .invokevirtual 58, .ifCond .eq 5, .goto_w 4]),
  (93, [.iload 4, .goto 6]),
  (98, [.aload 0, .getfield 804, .goto_w 6]),
  (102, [.putfield 804, .goto 12]),
  (108, [.aload 0, .aload 0, .getfield 807, .ifCond .eq 10, .goto_w 8]),
  (116, [.iload 4, .invokestatic 14, .ifCond .eq 10, .goto_w 9]),
  (124, [.iload 4, .goto 11]),
  (129, [.aload 0, .getfield 804, .goto_w 11]),
  (133, [.putfield 804, .goto 12]),
  (139, [.return_])]
/-- IceSearch$Voyage.readAsked(I)V -/
def am_b167 : List (Nat × List Instr) := [(0, [.aload 0, .getfield 802, .iconst 0, .invokestatic 52, .aload 0, .getfield 802, .iconst 0, .iload 1, .iconst 10, .idiv, .iastore, .aload 0, .getfield 802, .iconst 1, .iload 1, .iastore, .aload 0, .getfield 802, .iconst 2, .aload 0, .getfield 806, .iastore, .aload 0, .getfield 802, .iconst 3, .aload 0, .getfield 805, .iastore, .iconst 0, .istore 2, .ret 1]),
  (47, [.iload 2, .iconst 4, .if_icmp .ge 6, .goto_w 2]),
  (52, [.aload 0, .getfield 802, .iconst 4, .iload 2, .iadd, .aload 0, .getfield 800, .aload 0, .getfield 804, .iload 2, .invokestatic 168, .iload 1, .invokevirtual 58, .ifCond .eq 4, .goto_w 3]),
  (78, [.iconst 1, .goto 5]),
  (82, [.iconst 0, .goto_w 5]),
  (83, [.iastore, .iinc 2 1, .jsr_w 1]),
  (90, [.aload 0, .getfield 802, .iconst 8, .aload 0, .getfield 807, .ifCond .eq 8, .goto_w 7]),
  (103, [.iconst 1, .goto 9]),
  (107, [.iconst 0, .goto_w 9]),
  (108, [.iastore, .return_])]
/-- IceSearch.cellTowards(II)I -/
def am_b168 : List (Nat × List Instr) := [(0, [.iload 0, .iconst 1, .iconst 2, .iload 1, .imul, .iadd, .invokestatic 85, .ireturn])]
/-- IceSearch$Rules.firstOrder([I)I -/
def am_b169 : List (Nat × List Instr) := [(0, [.iconst 0, .istore 2, .ret 1]),
  (2, [.iload 2, .aload 0, .getfield 1101, .if_icmp .ge 6, .goto_w 2]),
  (10, [.aload 0, .iload 2, .invokevirtual 170, .ifCond .ne 5, .goto_w 3]),
  (18, [.aload 0, .iload 2, .aload 1, .invokevirtual 172, .ifCond .eq 5, .goto_w 4]),
  (27, [.iload 2, .ireturn]),
  (29, [.iinc 2 1, .jsr_w 1]),
  (35, [.iconst (-1), .ireturn])]
/-- IceSearch$Rules.isPay(I)Z -/
def am_b170 : List (Nat × List Instr) := [(0, [.aload 0, .iload 1, .iconst 0, .invokevirtual 171, .iconst 21, .if_icmp .ne 2, .goto_w 1]),
  (11, [.iconst 1, .goto 3]),
  (15, [.iconst 0, .goto_w 3]),
  (16, [.ireturn])]
/-- IceSearch$Rules.part(II)I -/
def am_b171 : List (Nat × List Instr) := [(0, [.iload 1, .iconst 5, .imul, .iload 2, .iadd, .istore 3, .iload 1, .ifCond .lt 6, .goto_w 1]),
  (10, [.iload 1, .aload 0, .getfield 1101, .if_icmp .ge 6, .goto_w 2]),
  (18, [.iload 2, .ifCond .lt 6, .goto_w 3]),
  (22, [.iload 2, .iconst 5, .if_icmp .ge 6, .goto_w 4]),
  (27, [.iload 3, .aload 0, .getfield 1102, .arraylength, .if_icmp .ge 6, .goto_w 5]),
  (36, [.aload 0, .getfield 1102, .iload 3, .iaload, .goto 7]),
  (45, [.iconst (-1), .goto_w 7]),
  (46, [.ireturn])]
/-- IceSearch$Rules.holds(I[I)Z -/
def am_b172 : List (Nat × List Instr) := [(0, [.aload 0, .iload 1, .invokevirtual 173, .ifCond .ne 2, .goto_w 1]),
  (8, [.iconst 1, .ireturn]),
  (10, [.jsr 0, .lstore 3, .aload 0, .iload 1, .iconst 4, .invokevirtual 171, .istore 5, .iconst 0, .aload 0, .iload 1, .iconst 3, .invokevirtual 171, .invokestatic 67, .istore 6, .ret 3]),
  (32, [.iload 6, .iload 5, .if_icmp .ge 14, .goto_w 4]),
  (39, [.iload 6, .aload 0, .getfield 1103, .arraylength, .if_icmp .ge 14, .goto_w 5]),
  (49, [.aload 0, .getfield 1103, .iload 6, .iaload, .tableswitch 9 (-3) (-1) #[8, 7, 6]]),
  (84, [.lload 3, .iconst 1, .lushr, .lload 3, .jsr (-2), .lor, .land, .lstore 3, .goto 13]),
  (97, [.lload 3, .iconst 1, .lushr, .lload 3, .jsr 1, .land, .lor, .lstore 3, .goto 13]),
  (108, [.lload 3, .jsr 1, .lxor, .lstore 3, .goto 13]),
  (115, [.lload 3, .iconst 1, .lshl, .aload 0, .aload 0, .getfield 1103, .iload 6, .iaload, .aload 2, .invokevirtual 174, .ifCond .eq 11, .goto_w 10]),
  (133, [.jsr 1, .goto 12]),
  (137, [.jsr 0, .goto_w 12]),
  (138, [.lor, .lstore 3, .goto_w 13]),
  (140, [.iinc 6 1, .jsr_w 3]),
  (146, [.lload 3, .jsr 1, .land, .jsr 1, .lcmp, .ifCond .ne 16, .goto_w 15]),
  (154, [.iconst 1, .goto 17]),
  (158, [.iconst 0, .goto_w 17]),
  (159, [.ireturn])]
/-- IceSearch$Rules.hasCondition(I)Z -/
def am_b173 : List (Nat × List Instr) := [(0, [.aload 0, .iload 1, .iconst 3, .invokevirtual 171, .aload 0, .iload 1, .iconst 4, .invokevirtual 171, .if_icmp .ge 2, .goto_w 1]),
  (15, [.iconst 1, .goto 3]),
  (19, [.iconst 0, .goto_w 3]),
  (20, [.ireturn])]
/-- IceSearch$Rules.isTrue(I[I)Z -/
def am_b174 : List (Nat × List Instr) := [(0, [.iload 1, .iconst 100000, .irem, .istore 3, .iload 1, .iconst 100000, .idiv, .iconst 3, .irem, .istore 4, .iload 1, .iconst 100000, .idiv, .iconst 3, .idiv, .istore 5, .iload 5, .ifCond .lt 2, .goto_w 1]),
  (26, [.iload 5, .aload 2, .arraylength, .if_icmp .lt 3, .goto_w 2]),
  (33, [.iconst 0, .ireturn]),
  (35, [.iload 4, .lookupswitch 12 #[(0, 4), (1, 8)]]),
  (64, [.aload 2, .iload 5, .iaload, .iload 3, .if_icmp .ge 6, .goto_w 5]),
  (72, [.iconst 1, .goto 7]),
  (76, [.iconst 0, .goto_w 7]),
  (77, [.ireturn]),
  (78, [.aload 2, .iload 5, .iaload, .iload 3, .if_icmp .le 10, .goto_w 9]),
  (86, [.iconst 1, .goto 11]),
  (90, [.iconst 0, .goto_w 11]),
  (91, [.ireturn]),
  (92, [.aload 2, .iload 5, .iaload, .iload 3, .if_icmp .ne 14, .goto_w 13]),
  (100, [.iconst 1, .goto 15]),
  (104, [.iconst 0, .goto_w 15]),
  (105, [.ireturn])]
/-- IceSearch$Voyage.cellOn(I)I -/
def am_b175 : List (Nat × List Instr) := [(0, [.iload 1, .invokestatic 18, .ifCond .eq 2, .goto_w 1]),
  (7, [.aload 0, .getfield 803, .iload 1, .iaload, .goto 3]),
  (16, [.iconst (-2), .goto_w 3]),
  (18, [.ireturn])]
/-- IceSearch$Voyage.answer(I)I -/
def am_b176 : List (Nat × List Instr) := [(0, [.iload 1, .tableswitch 9 0 4 #[1, 2, 3, 4, 8]]),
  (36, [.aload 0, .getfield 804, .ireturn]),
  (41, [.aload 0, .getfield 805, .ireturn]),
  (46, [.aload 0, .getfield 806, .ireturn]),
  (51, [.aload 0, .getfield 807, .ifCond .eq 6, .goto_w 5]),
  (58, [.iconst 1, .goto 7]),
  (62, [.iconst 0, .goto_w 7]),
  (63, [.ireturn]),
  (64, [.aload 0, .getfield 808, .ireturn]),
  (69, [.iconst (-2), .ireturn])]
/-- IceSearch.tried(II)I -/
def am_b177 : List (Nat × List Instr) := [(0, [.aload 0, .getfield 13, .ifnull 3, .goto_w 1]),
  (7, [.iload 1, .invokestatic 25, .ifCond .eq 3, .goto_w 2]),
  (14, [.iload 2, .invokestatic 161, .ifCond .ne 4, .goto_w 3]),
  (21, [.iconst (-2), .ireturn]),
  (24, [.aload 0, .getfield 0, .iload 1, .invokevirtual 51, .aload 0, .getfield 7, .aload 0, .getfield 13, .aload 0, .getfield 16, .invokevirtual 163, .aload 0, .getfield 7, .iload 2, .invokevirtual 176, .ireturn])]
/-- IceSearch.quarrel(II)I -/
def am_b178 : List (Nat × List Instr) := [(0, [.iload 1, .invokestatic 25, .ifCond .eq 3, .goto_w 1]),
  (7, [.iload 2, .ifCond .lt 3, .goto_w 2]),
  (11, [.iload 2, .iconst 1, .if_icmp .le 4, .goto_w 3]),
  (16, [.iconst (-1), .ireturn]),
  (18, [.aload 0, .iload 1, .invokevirtual 162, .astore 3, .aload 3, .invokevirtual 179, .istore 4, .iload 2, .ifCond .ne 6, .goto_w 5]),
  (34, [.iload 4, .goto 7]),
  (39, [.aload 3, .iload 4, .invokevirtual 180, .goto_w 7]),
  (45, [.ireturn])]
/-- IceSearch$Rules.firstQuarrel()I -/
def am_b179 : List (Nat × List Instr) := [(0, [.iconst 0, .istore 1, .ret 1]),
  (2, [.iload 1, .aload 0, .getfield 1101, .if_icmp .ge 5, .goto_w 2]),
  (10, [.aload 0, .iload 1, .invokevirtual 180, .iconst (-1), .if_icmp .eq 4, .goto_w 3]),
  (19, [.iload 1, .ireturn]),
  (21, [.iinc 1 1, .jsr_w 1]),
  (27, [.iconst (-1), .ireturn])]
/-- IceSearch$Rules.rival(I)I -/
def am_b180 : List (Nat × List Instr) := [(0, [.aload 0, .iload 1, .invokevirtual 170, .ifCond .eq 2, .goto_w 1]),
  (8, [.aload 0, .iload 1, .invokevirtual 173, .ifCond .eq 3, .goto_w 2]),
  (16, [.iconst (-1), .ireturn]),
  (18, [.iload 1, .iconst 1, .iadd, .istore 2, .ret 4]),
  (22, [.iload 2, .aload 0, .getfield 1101, .if_icmp .ge 10, .goto_w 5]),
  (30, [.aload 0, .iload 2, .invokevirtual 170, .ifCond .eq 9, .goto_w 6]),
  (38, [.aload 0, .iload 2, .invokevirtual 173, .ifCond .ne 9, .goto_w 7]),
  (46, [.aload 0, .iload 2, .iconst 1, .invokevirtual 171, .aload 0, .iload 1, .iconst 1, .invokevirtual 171, .if_icmp .ne 9, .goto_w 8]),
  (61, [.iload 2, .ireturn]),
  (63, [.iinc 2 1, .jsr_w 4]),
  (69, [.iconst (-1), .ireturn])]
/-- IceSearch.paid(II)I -/
def am_b181 : List (Nat × List Instr) := [(0, [.iload 1, .invokestatic 32, .ifCond .eq 2, .goto_w 1]),
  (7, [.iload 2, .invokestatic 25, .ifCond .ne 3, .goto_w 2]),
  (14, [.iconst (-2), .ireturn]),
  (17, [.aload 0, .iload 2, .invokevirtual 162, .astore 3, .iconst 0, .istore 4, .iconst 0, .istore 5, .ret 4]),
  (29, [.iload 5, .aload 0, .getfield 2, .getfield 308, .if_icmp .ge 9, .goto_w 5]),
  (41, [.aload 0, .getfield 2, .iload 5, .iconst 6, .invokevirtual 42, .iload 1, .if_icmp .ne 8, .goto_w 6]),
  (56, [.aload 0, .getfield 2, .iload 5, .iload 2, .invokevirtual 45, .ifCond .eq 8, .goto_w 7]),
  (69, [.iload 4, .aload 0, .iload 5, .aload 3, .invokevirtual 182, .iadd, .istore 4, .goto_w 8]),
  (81, [.iinc 5 1, .jsr_w 4]),
  (87, [.iload 4, .ireturn])]
/-- IceSearch.payFor(ILIceSearch$Rules.)I -/
def am_b182 : List (Nat × List Instr) := [(0, [.aload 0, .getfield 2, .iload 1, .iconst 2, .invokevirtual 42, .istore 3, .aload 0, .getfield 12, .iconst 0, .invokestatic 52, .aload 0, .getfield 12, .iconst 0, .iload 3, .iconst 10, .idiv, .iastore, .aload 0, .getfield 12, .iconst 1, .iload 3, .iastore, .aload 0, .getfield 12, .iconst 9, .aload 0, .getfield 2, .iload 1, .iconst 4, .invokevirtual 42, .iastore, .aload 0, .getfield 12, .iconst 10, .aload 0, .getfield 2, .iload 1, .iconst 7, .invokevirtual 42, .iastore, .aload 0, .getfield 12, .iconst 11, .aload 0, .getfield 2, .iload 1, .invokevirtual 183, .ifCond .eq 2, .goto_w 1]),
  (85, [.iconst 1, .goto 3]),
  (89, [.iconst 0, .goto_w 3]),
  (90, [.iastore, .aload 2, .aload 0, .getfield 2, .iload 1, .iconst 0, .invokevirtual 42, .aload 0, .getfield 12, .invokevirtual 184, .ireturn])]
/-- IceSearch$Clues.isFirstAtCell(I)Z -/
def am_b183 : List (Nat × List Instr) := [(0, [.iconst 0, .istore 2, .ret 1]),
  (2, [.iload 2, .iload 1, .if_icmp .ge 5, .goto_w 2]),
  (7, [.aload 0, .iload 2, .iconst 1, .invokevirtual 42, .aload 0, .iload 1, .iconst 1, .invokevirtual 42, .if_icmp .ne 4, .goto_w 3]),
  (22, [.iconst 0, .ireturn]),
  (24, [.iinc 2 1, .jsr_w 1]),
  (30, [.iconst 1, .ireturn])]
/-- IceSearch$Rules.payOf(I[I)I -/
def am_b184 : List (Nat × List Instr) := [(0, [.iconst 0, .istore 3, .ret 1]),
  (2, [.iload 3, .aload 0, .getfield 1101, .if_icmp .ge 7, .goto_w 2]),
  (10, [.aload 0, .iload 3, .invokevirtual 170, .ifCond .eq 6, .goto_w 3]),
  (18, [.aload 0, .iload 3, .iconst 1, .invokevirtual 171, .iload 1, .if_icmp .ne 6, .goto_w 4]),
  (28, [.aload 0, .iload 3, .aload 2, .invokevirtual 172, .ifCond .eq 6, .goto_w 5]),
  (37, [.aload 0, .iload 3, .iconst 2, .invokevirtual 171, .ireturn]),
  (44, [.iinc 3 1, .jsr_w 1]),
  (50, [.iconst 0, .ireturn])]
/-- IceSearch.count(I)I -/
def am_b185 : List (Nat × List Instr) := [(0, [.iload 1, .tableswitch 19 0 14 #[1, 2, 3, 4, 5, 6, 7, 8, 9, 10, 11, 12, 13, 14, 15]]),
  (76, [.aload 0, .getfield 15, .ireturn]),
  (81, [.aload 0, .getfield 2, .getfield 308, .ireturn]),
  (89, [.aload 0, .getfield 2, .aload 0, .getfield 15, .invokevirtual 186, .ireturn]),
  (101, [.aload 0, .getfield 0, .getfield 107, .ireturn]),
  (109, [.aload 0, .getfield 2, .getfield 309, .ireturn]),
  (117, [.aload 0, .getfield 6, .getfield 712, .ireturn]),
  (125, [.aload 0, .getfield 14, .ireturn]),
  (130, [.aload 0, .aload 0, .getfield 15, .invokevirtual 162, .getfield 1101, .ireturn]),
  (142, [.aload 0, .getfield 0, .getfield 108, .ireturn]),
  (150, [.aload 0, .getfield 0, .getfield 109, .ireturn]),
  (158, [.aload 0, .getfield 3, .getfield 405, .ireturn]),
  (166, [.aload 0, .getfield 16, .ireturn]),
  (171, [.aload 0, .getfield 17, .ireturn]),
  (176, [.aload 0, .getfield 8, .getfield 904, .ireturn]),
  (184, [.aload 0, .getfield 13, .ifnonnull 17, .goto_w 16]),
  (191, [.iconst 0, .goto 18]),
  (195, [.iconst 1, .goto_w 18]),
  (196, [.ireturn]),
  (197, [.iconst (-1), .ireturn])]
/-- IceSearch$Clues.countDoubted(I)I -/
def am_b186 : List (Nat × List Instr) := [(0, [.iconst 0, .istore 2, .iconst 0, .istore 3, .ret 1]),
  (4, [.iload 3, .aload 0, .getfield 308, .if_icmp .ge 6, .goto_w 2]),
  (12, [.iload 2, .aload 0, .iload 3, .iload 1, .invokevirtual 40, .ifCond .eq 4, .goto_w 3]),
  (22, [.iconst 1, .goto 5]),
  (26, [.iconst 0, .goto_w 5]),
  (27, [.iadd, .istore 2, .iinc 3 1, .jsr_w 1]),
  (35, [.iload 2, .ireturn])]
/-- IceSearchModel.<init>()V -/
def am_b187 : List (Nat × List Instr) := [(0, [.aload 0, .monitorenter, .aload 0, .iconst 1, .putfield 1202, .aload 0, .iconst (-1), .putfield 1204, .aload 0, .iconst 50, .putfield 1206, .aload 0, .iconst 256, .newarray .boolean, .putfield 1207, .aload 0, .iconst 256, .newarray .boolean, .putfield 1208, .aload 0, .iconst 200, .newarray .int, .putfield 1210, .aload 0, .iconst 200, .newarray .int, .putfield 1211, .aload 0, .iconst 200, .newarray .int, .putfield 1212, .aload 0, .iconst 200, .newarray .boolean, .putfield 1213, .aload 0, .iconst 3072, .newarray .boolean, .putfield 1214, .aload 0, .iconst 10, .newarray .int, .putfield 1218, .aload 0, .iconst 10, .newarray .int, .putfield 1219, .aload 0, .iconst 40, .newarray .int, .putfield 1220, .aload 0, .iconst 40, .newarray .int, .putfield 1221, .aload 0, .iconst 40, .newarray .int, .putfield 1222, .aload 0, .iconst 40, .newarray .int, .putfield 1223, .aload 0, .iconst 40, .newarray .int, .putfield 1224, .aload 0, .iconst 40, .newarray .int, .putfield 1225, .aload 0, .iconst 40, .newarray .int, .putfield 1226, .aload 0, .iconst 40, .newarray .int, .putfield 1227, .aload 0, .iconst 200, .newarray .int, .putfield 1228, .aload 0, .iconst 200, .newarray .int, .putfield 1229, .aload 0, .iconst 200, .newarray .boolean, .putfield 1230, .aload 0, .iconst 6, .newarray .int, .putfield 1233, .aload 0, .iconst 40, .newarray .int, .putfield 1234, .aload 0, .iconst 256, .newarray .long, .putfield 1235, .aload 0, .iconst 256, .newarray .long, .putfield 1236, .aload 0, .iconst 119, .newarray .int, .putfield 1238, .aload 0, .iconst 256, .newarray .long, .putfield 1241, .aload 0, .iconst 256, .newarray .long, .putfield 1242, .aload 0, .iconst 4, .newarray .int, .putfield 1244, .aload 0, .iconst 4, .newarray .int, .putfield 1245, .aload 0, .iconst 4, .newarray .int, .putfield 1246, .aload 0, .iconst 256, .newarray .int, .putfield 1247, .aload 0, .iconst 16, .newarray .int, .putfield 1248, .aload 0, .iconst 4, .newarray .int, .putfield 1249, .aload 0, .iconst 4, .newarray .int, .putfield 1250, .aload 0, .iconst (-1), .putfield 1258, .aload 0, .iconst 10, .newarray .int, .putfield 1260, .aload 0, .iconst 10, .newarray .int, .putfield 1261, .aload 0, .iconst 300, .newarray .int, .putfield 1262, .aload 0, .iconst 300, .newarray .int, .putfield 1263, .aload 0, .iconst 300, .newarray .int, .putfield 1264, .aload 0, .iconst 300, .newarray .int, .putfield 1265, .aload 0, .iconst 7200, .newarray .int, .putfield 1266, .aload 0, .iconst 7200, .newarray .int, .putfield 1267, .aload 0, .iconst 7200, .newarray .int, .putfield 1268, .aload 0, .iconst 7200, .newarray .int, .putfield 1269, .aload 0, .iconst 7200, .newarray .int, .putfield 1270, .aload 0, .iconst 7200, .newarray .int, .putfield 1271, .aload 0, .iconst 12, .newarray .int, .putfield 1272, .aload 0, .iconst 700, .newarray .byte, .putfield 1273, .aload 0, .iconst 700, .newarray .byte, .putfield 1274, .aload 0, .iconst 120, .newarray .int, .putfield 1280, .return_])]
/-- IceSearchModel.day(I)Z -/
def am_b188 : List (Nat × List Instr) := [(0, [.iload 1, .aload 0, .getfield 1200, .if_icmp .le 2, .goto_w 1]),
  (8, [.iload 1, .iconst 999, .if_icmp .le 3, .goto_w 2]),
  (15, [.iconst 0, .ireturn]),
  (17, [.aload 0, .iload 1, .putfield 1200, .iconst 1, .ireturn])]
/-- IceSearchModel.land(IZ)Z -/
def am_b189 : List (Nat × List Instr) := [(0, [.iload 1, .invokestatic 190, .ifCond .eq 2, .goto_w 1]),
  (7, [.iload 1, .aload 0, .getfield 1201, .if_icmp .ne 3, .goto_w 2]),
  (15, [.iconst 0, .ireturn]),
  (17, [.aload 0, .getfield 1207, .iload 1, .iload 2, .bastore, .iconst 1, .ireturn])]
/-- IceSearchModel.isCell(I)Z -/
def am_b190 : List (Nat × List Instr) := [(0, [.iload 0, .iconst 0, .iconst 255, .invokestatic 191, .ireturn])]
/-- IceSearchModel.isIn(III)Z -/
def am_b191 : List (Nat × List Instr) := [(0, [.iload 0, .iload 1, .if_icmp .lt 3, .goto_w 1]),
  (5, [.iload 0, .iload 2, .if_icmp .gt 3, .goto_w 2]),
  (10, [.iconst 1, .goto 4]),
  (14, [.iconst 0, .goto_w 4]),
  (15, [.ireturn])]
/-- IceSearchModel.lost(IIII)Z -/
def am_b192 : List (Nat × List Instr) := [(0, [.iload 1, .invokestatic 190, .ifCond .eq 5, .goto_w 1]),
  (7, [.aload 0, .getfield 1207, .iload 1, .baload, .ifCond .ne 5, .goto_w 2]),
  (16, [.iload 2, .iconst 1, .iconst 200, .invokestatic 191, .ifCond .eq 5, .goto_w 3]),
  (27, [.iload 3, .iconst 0, .iconst 99999, .invokestatic 191, .ifCond .eq 5, .goto_w 4]),
  (37, [.iload 4, .iconst (-1), .iconst 119, .invokestatic 191, .ifCond .ne 6, .goto_w 5]),
  (48, [.iconst 0, .ireturn]),
  (50, [.aload 0, .iload 1, .putfield 1201, .aload 0, .iload 2, .putfield 1202, .aload 0, .iload 3, .putfield 1203, .aload 0, .iload 4, .putfield 1204, .iconst 1, .ireturn])]
/-- IceSearchModel.set(II)Z -/
def am_b193 : List (Nat × List Instr) := [(0, [.iload 1, .iconst 0, .iconst 119, .invokestatic 191, .ifCond .eq 2, .goto_w 1]),
  (10, [.iload 2, .iconst 0, .iconst 100, .invokestatic 191, .ifCond .ne 3, .goto_w 2]),
  (20, [.iconst 0, .ireturn]),
  (22, [.aload 0, .iload 1, .putfield 1205, .aload 0, .iload 2, .putfield 1206, .iconst 1, .ireturn])]
/-- IceSearchModel.home(IZ)Z -/
def am_b194 : List (Nat × List Instr) := [(0, [.iload 1, .invokestatic 190, .ifCond .ne 2, .goto_w 1]),
  (7, [.iconst 0, .ireturn]),
  (9, [.aload 0, .getfield 1208, .iload 1, .iload 2, .bastore, .iconst 1, .ireturn])]
/-- IceSearchModel.ice(IIZ)I -/
def am_b195 : List (Nat × List Instr) := [(0, [.iload 1, .invokestatic 190, .ifCond .eq 3, .goto_w 1]),
  (7, [.iload 2, .iconst 0, .iconst 11, .invokestatic 191, .ifCond .eq 3, .goto_w 2]),
  (17, [.aload 0, .getfield 1209, .iconst 200, .if_icmp .ne 4, .goto_w 3]),
  (27, [.iconst (-1), .ireturn]),
  (29, [.aload 0, .getfield 1210, .aload 0, .getfield 1209, .iload 1, .iastore, .aload 0, .getfield 1211, .aload 0, .getfield 1209, .iload 2, .iastore, .aload 0, .getfield 1213, .aload 0, .getfield 1209, .iload 3, .bastore, .aload 0, .getfield 1212, .aload 0, .getfield 1209, .aload 0, .getfield 1200, .iastore, .aload 0, .dup, .getfield 1209, .iconst 1, .iadd, .putfield 1209, .aload 0, .getfield 1209, .ireturn])]
/-- IceSearchModel.shut(III)I -/
def am_b196 : List (Nat × List Instr) := [(0, [.iload 1, .invokestatic 190, .ifCond .eq 3, .goto_w 1]),
  (7, [.iload 2, .iconst 0, .iconst 11, .invokestatic 191, .ifCond .eq 3, .goto_w 2]),
  (17, [.iload 3, .invokestatic 197, .ifCond .ne 4, .goto_w 3]),
  (24, [.iconst (-1), .ireturn]),
  (26, [.aload 0, .iload 3, .invokevirtual 198, .aload 0, .getfield 1214, .iconst 256, .iload 2, .imul, .iload 1, .iadd, .baload, .invokestatic 199, .ireturn])]
/-- IceSearchModel.isDay(I)Z -/
def am_b197 : List (Nat × List Instr) := [(0, [.iload 0, .iconst 0, .iconst 999, .invokestatic 191, .ireturn])]
/-- IceSearchModel.freezes(I)V -/
def am_b198 : List (Nat × List Instr) := [(0, [.iconst 0, .istore 2, .ret 1]),
  (2, [.iload 2, .iconst 3072, .if_icmp .ge 3, .goto_w 2]),
  (9, [.aload 0, .getfield 1214, .iload 2, .iconst 0, .bastore, .iinc 2 1, .jsr_w 1]),
  (22, [.iconst 0, .istore 2, .ret 4]),
  (24, [.iload 2, .aload 0, .getfield 1209, .if_icmp .ge 8, .goto_w 5]),
  (32, [.aload 0, .getfield 1212, .iload 2, .iaload, .iload 1, .if_icmp .gt 7, .goto_w 6]),
  (42, [.aload 0, .getfield 1214, .iconst 256, .aload 0, .getfield 1211, .iload 2, .iaload, .imul, .aload 0, .getfield 1210, .iload 2, .iaload, .iadd, .aload 0, .getfield 1213, .iload 2, .baload, .bastore, .goto_w 7]),
  (70, [.iinc 2 1, .jsr_w 4]),
  (76, [.return_])]
/-- IceSearchModel.one(Z)I -/
def am_b199 : List (Nat × List Instr) := [(0, [.iload 0, .ifCond .eq 2, .goto_w 1]),
  (4, [.iconst 1, .goto 3]),
  (8, [.iconst 0, .goto_w 3]),
  (9, [.ireturn])]
/-- IceSearchModel.teller(II)I -/
def am_b200 : List (Nat × List Instr) := [(0, [.iload 1, .iconst 0, .iconst 100, .invokestatic 191, .ifCond .eq 3, .goto_w 1]),
  (10, [.iload 2, .iconst (-1), .aload 0, .getfield 1215, .iconst 1, .isub, .invokestatic 191, .ifCond .eq 3, .goto_w 2]),
  (24, [.aload 0, .getfield 1215, .iconst 10, .if_icmp .ne 4, .goto_w 3]),
  (33, [.iconst (-1), .ireturn]),
  (35, [.aload 0, .getfield 1218, .aload 0, .getfield 1215, .iload 1, .iastore, .aload 0, .getfield 1219, .aload 0, .getfield 1215, .iload 2, .iastore, .aload 0, .dup, .getfield 1215, .iconst 1, .iadd, .putfield 1215, .aload 0, .getfield 1215, .iconst 1, .isub, .ireturn])]
/-- IceSearchModel.find(IIIIIII)I -/
def am_b201 : List (Nat × List Instr) := [(0, [.iload 1, .iconst 0, .iconst 4, .invokestatic 191, .ifCond .eq 5, .goto_w 1]),
  (9, [.iload 2, .invokestatic 190, .ifCond .eq 5, .goto_w 2]),
  (16, [.iload 3, .iconst 0, .iconst 119, .invokestatic 191, .ifCond .eq 5, .goto_w 3]),
  (26, [.iload 4, .iload 3, .iconst 119, .invokestatic 191, .ifCond .eq 5, .goto_w 4]),
  (37, [.iload 1, .iload 5, .invokestatic 202, .ifCond .ne 6, .goto_w 5]),
  (46, [.iconst (-1), .ireturn]),
  (48, [.iload 6, .iconst (-1), .aload 0, .getfield 1215, .iconst 1, .isub, .invokestatic 191, .ifCond .eq 9, .goto_w 7]),
  (63, [.iload 7, .iconst 0, .iconst 9, .invokestatic 191, .ifCond .eq 9, .goto_w 8]),
  (74, [.aload 0, .getfield 1216, .iconst 40, .if_icmp .ne 10, .goto_w 9]),
  (83, [.iconst (-1), .ireturn]),
  (85, [.aload 0, .getfield 1220, .aload 0, .getfield 1216, .iload 1, .iastore, .aload 0, .getfield 1221, .aload 0, .getfield 1216, .iload 2, .iastore, .aload 0, .getfield 1222, .aload 0, .getfield 1216, .iload 3, .iastore, .aload 0, .getfield 1223, .aload 0, .getfield 1216, .iload 4, .iastore, .aload 0, .getfield 1224, .aload 0, .getfield 1216, .iload 5, .iastore, .aload 0, .getfield 1225, .aload 0, .getfield 1216, .iload 6, .iastore, .aload 0, .getfield 1226, .aload 0, .getfield 1216, .iload 7, .iastore, .aload 0, .getfield 1227, .aload 0, .getfield 1216, .aload 0, .getfield 1200, .iastore, .aload 0, .dup, .getfield 1216, .iconst 1, .iadd, .putfield 1216, .aload 0, .getfield 1216, .iconst 1, .isub, .ireturn])]
/-- IceSearchModel.isReach(II)Z -/
def am_b202 : List (Nat × List Instr) := [(0, [.iload 0, .ifCond .ne 4, .goto_w 1]),
  (4, [.iload 1, .ifCond .ne 3, .goto_w 2]),
  (8, [.iconst 1, .goto 11]),
  (12, [.iconst 0, .goto 11]),
  (16, [.iload 0, .iconst 1, .if_icmp .ne 6, .goto_w 5]),
  (21, [.iload 1, .iconst 0, .iconst 2, .invokestatic 191, .goto 11]),
  (30, [.iload 0, .iconst 2, .if_icmp .ne 8, .goto_w 7]),
  (35, [.iload 1, .iconst 0, .iconst 5, .invokestatic 191, .goto 11]),
  (44, [.iload 0, .iconst 3, .if_icmp .ne 10, .goto_w 9]),
  (49, [.iload 1, .iconst 0, .iconst 15, .invokestatic 191, .goto 11]),
  (59, [.iload 1, .iconst 1, .iconst 100, .invokestatic 191, .goto_w 11]),
  (66, [.ireturn])]
/-- IceSearchModel.doubt(IZ)Z -/
def am_b203 : List (Nat × List Instr) := [(0, [.iload 1, .iconst 0, .aload 0, .getfield 1216, .iconst 1, .isub, .invokestatic 191, .ifCond .eq 3, .goto_w 1]),
  (14, [.aload 0, .getfield 1217, .iconst 200, .if_icmp .eq 3, .goto_w 2]),
  (24, [.aload 0, .iload 1, .aload 0, .getfield 1200, .invokevirtual 204, .iload 2, .if_icmp .ne 4, .goto_w 3]),
  (37, [.iconst 0, .ireturn]),
  (39, [.aload 0, .getfield 1228, .aload 0, .getfield 1217, .iload 1, .iastore, .aload 0, .getfield 1230, .aload 0, .getfield 1217, .iload 2, .bastore, .aload 0, .getfield 1229, .aload 0, .getfield 1217, .aload 0, .getfield 1200, .iastore, .aload 0, .dup, .getfield 1217, .iconst 1, .iadd, .putfield 1217, .iconst 1, .ireturn])]
/-- IceSearchModel.isDoubted(II)Z -/
def am_b204 : List (Nat × List Instr) := [(0, [.iconst 0, .istore 3, .iconst 0, .istore 4, .ret 1]),
  (5, [.iload 4, .aload 0, .getfield 1217, .if_icmp .ge 6, .goto_w 2]),
  (14, [.aload 0, .getfield 1228, .iload 4, .iaload, .iload 1, .if_icmp .ne 5, .goto_w 3]),
  (25, [.aload 0, .getfield 1229, .iload 4, .iaload, .iload 2, .if_icmp .gt 5, .goto_w 4]),
  (36, [.aload 0, .getfield 1230, .iload 4, .baload, .istore 3, .goto_w 5]),
  (44, [.iinc 4 1, .jsr_w 1]),
  (50, [.iload 3, .ireturn])]
/-- IceSearchModel.found(II)I -/
def am_b205 : List (Nat × List Instr) := [(0, [.iload 1, .iconst 0, .aload 0, .getfield 1216, .iconst 1, .isub, .invokestatic 191, .ifCond .ne 2, .goto_w 1]),
  (14, [.iconst (-2), .ireturn]),
  (17, [.iload 2, .tableswitch 13 0 9 #[3, 4, 5, 6, 7, 8, 9, 10, 11, 12]]),
  (72, [.aload 0, .getfield 1220, .iload 1, .iaload, .ireturn]),
  (79, [.aload 0, .getfield 1221, .iload 1, .iaload, .ireturn]),
  (86, [.aload 0, .getfield 1222, .iload 1, .iaload, .ireturn]),
  (93, [.aload 0, .getfield 1223, .iload 1, .iaload, .ireturn]),
  (100, [.aload 0, .getfield 1224, .iload 1, .iaload, .ireturn]),
  (107, [.aload 0, .getfield 1225, .iload 1, .iaload, .ireturn]),
  (114, [.aload 0, .getfield 1226, .iload 1, .iaload, .ireturn]),
  (121, [.aload 0, .iload 1, .invokevirtual 206, .ireturn]),
  (127, [.aload 0, .getfield 1227, .iload 1, .iaload, .ireturn]),
  (134, [.aload 0, .iload 1, .aload 0, .getfield 1200, .invokevirtual 204, .invokestatic 199, .ireturn]),
  (147, [.iconst (-2), .ireturn])]
/-- IceSearchModel.trustOf(I)I -/
def am_b206 : List (Nat × List Instr) := [(0, [.aload 0, .getfield 1225, .iload 1, .iaload, .iconst (-1), .if_icmp .ne 2, .goto_w 1]),
  (10, [.iconst 100, .ireturn]),
  (13, [.aload 0, .getfield 1218, .aload 0, .getfield 1225, .iload 1, .iaload, .iaload, .istore 2, .aload 0, .getfield 1219, .aload 0, .getfield 1225, .iload 1, .iaload, .iaload, .istore 3, .ret 3]),
  (37, [.iload 3, .iconst (-1), .if_icmp .eq 5, .goto_w 4]),
  (42, [.iload 2, .aload 0, .getfield 1218, .iload 3, .iaload, .imul, .iconst 100, .idiv, .istore 2, .aload 0, .getfield 1219, .iload 3, .iaload, .istore 3, .jsr_w 3]),
  (64, [.iload 2, .ireturn])]
/-- IceSearchModel.kept(II)I -/
def am_b207 : List (Nat × List Instr) := [(0, [.iload 1, .invokestatic 197, .ifCond .ne 2, .goto_w 1]),
  (7, [.iconst (-1), .ireturn]),
  (9, [.aload 0, .iload 1, .invokevirtual 208, .iload 2, .ifCond .ne 4, .goto_w 3]),
  (18, [.aload 0, .getfield 1231, .goto 9]),
  (25, [.iload 2, .iconst 1, .if_icmp .ne 6, .goto_w 5]),
  (30, [.aload 0, .getfield 1232, .goto 9]),
  (37, [.iload 2, .iconst 10, .iconst 9, .aload 0, .getfield 1231, .iadd, .invokestatic 191, .ifCond .eq 8, .goto_w 7]),
  (53, [.aload 0, .getfield 1233, .iload 2, .iconst 10, .isub, .iaload, .goto 9]),
  (65, [.iconst (-1), .goto_w 9]),
  (66, [.ireturn])]
/-- IceSearchModel.keeps(I)V -/
def am_b208 : List (Nat × List Instr) := [(0, [.aload 0, .iconst 0, .putfield 1231, .aload 0, .iconst 0, .putfield 1232, .iconst 0, .istore 2, .ret 1]),
  (12, [.iload 2, .aload 0, .getfield 1216, .if_icmp .ge 12, .goto_w 2]),
  (20, [.aload 0, .iload 2, .iload 1, .invokevirtual 209, .ifCond .eq 11, .goto_w 3]),
  (29, [.aload 0, .iload 2, .invokevirtual 206, .aload 0, .getfield 1206, .if_icmp .ge 5, .goto_w 4]),
  (41, [.goto 11]),
  (44, [.aload 0, .getfield 1220, .iload 2, .iaload, .iconst 4, .if_icmp .eq 8, .goto_w 6]),
  (54, [.aload 0, .getfield 1231, .iconst 6, .if_icmp .ge 8, .goto_w 7]),
  (63, [.aload 0, .getfield 1233, .aload 0, .getfield 1231, .iload 2, .iastore, .aload 0, .dup, .getfield 1231, .iconst 1, .iadd, .putfield 1231, .goto 11]),
  (86, [.aload 0, .getfield 1220, .iload 2, .iaload, .iconst 4, .if_icmp .ne 11, .goto_w 9]),
  (96, [.aload 0, .getfield 1224, .iload 2, .iaload, .iconst 100, .if_icmp .ne 11, .goto_w 10]),
  (107, [.aload 0, .getfield 1234, .aload 0, .getfield 1232, .iload 2, .iastore, .aload 0, .dup, .getfield 1232, .iconst 1, .iadd, .putfield 1232, .goto_w 11]),
  (127, [.iinc 2 1, .jsr_w 1]),
  (133, [.return_])]
/-- IceSearchModel.holds(II)Z -/
def am_b209 : List (Nat × List Instr) := [(0, [.aload 0, .getfield 1227, .iload 1, .iaload, .iload 2, .if_icmp .gt 3, .goto_w 1]),
  (10, [.aload 0, .iload 1, .iload 2, .invokevirtual 204, .ifCond .ne 3, .goto_w 2]),
  (19, [.iconst 1, .goto 4]),
  (23, [.iconst 0, .goto_w 4]),
  (24, [.ireturn])]
/-- IceSearchModel.fits(I)I -/
def am_b210 : List (Nat × List Instr) := [(0, [.iload 1, .invokestatic 197, .ifCond .ne 2, .goto_w 1]),
  (7, [.iconst (-1), .ireturn]),
  (9, [.aload 0, .iload 1, .iconst (-1), .iconst (-1), .iconst 0, .invokevirtual 211, .aload 0, .invokevirtual 219, .invokestatic 199, .ireturn])]
/-- IceSearchModel.goes(IIIZ)V -/
def am_b211 : List (Nat × List Instr) := [(0, [.aload 0, .iload 1, .invokevirtual 198, .aload 0, .iload 1, .invokevirtual 208, .iconst 0, .istore 5, .ret 1]),
  (13, [.iload 5, .iconst 256, .if_icmp .ge 3, .goto_w 2]),
  (21, [.aload 0, .getfield 1235, .iload 5, .jsr 0, .lastore, .iinc 5 1, .jsr_w 1]),
  (35, [.aload 0, .getfield 1235, .aload 0, .getfield 1201, .jsr 1, .lastore, .iconst 0, .istore 5, .ret 4]),
  (48, [.iload 5, .aload 0, .getfield 1205, .if_icmp .gt 29, .goto_w 5]),
  (57, [.iconst 0, .istore 6, .ret 6]),
  (60, [.iload 6, .iconst 256, .if_icmp .ge 8, .goto_w 7]),
  (68, [.aload 0, .getfield 1236, .iload 6, .aload 0, .getfield 1235, .iload 6, .laload, .lastore, .iinc 6 1, .jsr_w 6]),
  (88, [.iconst 0, .istore 6, .ret 9]),
  (91, [.iload 6, .iconst 256, .if_icmp .ge 28, .goto_w 10]),
  (99, [.aload 0, .getfield 1236, .iload 6, .laload, .lstore 7, .iconst 1, .istore 9, .ret 11]),
  (111, [.iload 9, .iconst 9, .if_icmp .ge 17, .goto_w 12]),
  (118, [.iload 5, .ifCond .le 17, .goto_w 13]),
  (123, [.aload 0, .iload 6, .iload 5, .invokevirtual 212, .ifCond .eq 17, .goto_w 14]),
  (134, [.iload 6, .iload 9, .invokestatic 214, .iconst (-1), .if_icmp .eq 16, .goto_w 15]),
  (145, [.lload 7, .aload 0, .getfield 1236, .iload 6, .iload 9, .invokestatic 214, .laload, .lor, .lstore 7, .goto_w 16]),
  (162, [.iinc 9 1, .jsr_w 11]),
  (168, [.aload 0, .iload 6, .iload 5, .invokevirtual 215, .ifCond .ne 22, .goto_w 18]),
  (179, [.iload 4, .ifCond .eq 20, .goto_w 19]),
  (184, [.iload 6, .iload 2, .if_icmp .eq 22, .goto_w 20]),
  (190, [.iload 5, .iload 3, .if_icmp .ne 23, .goto_w 21]),
  (196, [.iload 6, .iload 2, .if_icmp .eq 23, .goto_w 22]),
  (202, [.iconst 1, .goto 24]),
  (206, [.iconst 0, .goto_w 24]),
  (207, [.istore 9, .aload 0, .getfield 1235, .iload 6, .iload 9, .ifCond .eq 26, .goto_w 25]),
  (220, [.jsr 0, .goto 27]),
  (224, [.aload 0, .lload 7, .iload 6, .iload 5, .invokevirtual 216, .goto_w 27]),
  (234, [.lastore, .iinc 6 1, .jsr_w 9]),
  (241, [.iinc 5 1, .jsr_w 4]),
  (247, [.return_])]
/-- IceSearchModel.mayCome(II)Z -/
def am_b212 : List (Nat × List Instr) := [(0, [.aload 0, .getfield 1204, .iconst (-1), .if_icmp .eq 2, .goto_w 1]),
  (8, [.iload 2, .aload 0, .getfield 1204, .if_icmp .ge 3, .goto_w 2]),
  (16, [.aload 0, .iload 1, .iload 2, .iconst 10, .idiv, .invokevirtual 213, .ifCond .eq 4, .goto_w 3]),
  (28, [.iconst 1, .goto 5]),
  (32, [.iconst 0, .goto_w 5]),
  (33, [.ireturn])]
/-- IceSearchModel.isOpenSea(II)Z -/
def am_b213 : List (Nat × List Instr) := [(0, [.aload 0, .getfield 1207, .iload 1, .baload, .ifCond .ne 3, .goto_w 1]),
  (9, [.aload 0, .getfield 1214, .iconst 256, .iload 2, .imul, .iload 1, .iadd, .baload, .ifCond .ne 3, .goto_w 2]),
  (24, [.iconst 1, .goto 4]),
  (28, [.iconst 0, .goto_w 4]),
  (29, [.ireturn])]
/-- IceSearchModel.next(II)I -/
def am_b214 : List (Nat × List Instr) := [(0, [.iload 0, .iconst 16, .idiv, .iload 1, .iconst 1, .if_icmp .eq 3, .goto_w 1]),
  (9, [.iload 1, .iconst 2, .if_icmp .eq 3, .goto_w 2]),
  (14, [.iload 1, .iconst 8, .if_icmp .ne 4, .goto_w 3]),
  (20, [.iconst (-1), .goto 8]),
  (24, [.iload 1, .iconst 4, .if_icmp .lt 7, .goto_w 5]),
  (29, [.iload 1, .iconst 6, .if_icmp .gt 7, .goto_w 6]),
  (35, [.iconst 1, .goto 8]),
  (39, [.iconst 0, .goto_w 8]),
  (40, [.iadd, .istore 2, .iload 0, .iconst 16, .irem, .iload 1, .iconst 2, .if_icmp .lt 11, .goto_w 9]),
  (51, [.iload 1, .iconst 4, .if_icmp .gt 11, .goto_w 10]),
  (56, [.iconst 1, .goto 15]),
  (60, [.iload 1, .iconst 6, .if_icmp .lt 14, .goto_w 12]),
  (66, [.iload 1, .iconst 8, .if_icmp .gt 14, .goto_w 13]),
  (72, [.iconst (-1), .goto 15]),
  (76, [.iconst 0, .goto_w 15]),
  (77, [.iadd, .istore 3, .iload 2, .iconst 0, .iconst 15, .invokestatic 191, .ifCond .eq 18, .goto_w 16]),
  (89, [.iload 3, .iconst 0, .iconst 15, .invokestatic 191, .ifCond .eq 18, .goto_w 17]),
  (99, [.iconst 16, .iload 2, .imul, .iload 3, .iadd, .goto 19]),
  (108, [.iconst (-1), .goto_w 19]),
  (109, [.ireturn])]
/-- IceSearchModel.isBarred(II)Z -/
def am_b215 : List (Nat × List Instr) := [(0, [.iconst 0, .istore 3, .iconst 0, .istore 4, .ret 1]),
  (5, [.iload 4, .aload 0, .getfield 1232, .if_icmp .ge 8, .goto_w 2]),
  (14, [.iload 3, .ifCond .ne 5, .goto_w 3]),
  (18, [.aload 0, .getfield 1221, .aload 0, .getfield 1234, .iload 4, .iaload, .iaload, .iload 1, .if_icmp .ne 6, .goto_w 4]),
  (34, [.iload 2, .aload 0, .getfield 1222, .aload 0, .getfield 1234, .iload 4, .iaload, .iaload, .aload 0, .getfield 1223, .aload 0, .getfield 1234, .iload 4, .iaload, .iaload, .invokestatic 191, .ifCond .eq 6, .goto_w 5]),
  (65, [.iconst 1, .goto 7]),
  (69, [.iconst 0, .goto_w 7]),
  (70, [.istore 3, .iinc 4 1, .jsr_w 1]),
  (77, [.iload 3, .ireturn])]
/-- IceSearchModel.meets(JII)J -/
def am_b216 : List (Nat × List Instr) := [(0, [.lload 1, .lstore 5, .iconst 0, .istore 7, .ret 1]),
  (6, [.iload 7, .aload 0, .getfield 1231, .if_icmp .ge 5, .goto_w 2]),
  (15, [.aload 0, .aload 0, .getfield 1233, .iload 7, .iaload, .iload 3, .iload 4, .invokevirtual 217, .ifCond .eq 4, .goto_w 3]),
  (32, [.lload 5, .getstatic 3, .iload 7, .laload, .jsr (-1), .lxor, .land, .lload 5, .getstatic 3, .iload 7, .laload, .land, .iconst 1, .iload 7, .ishl, .lshl, .lor, .lstore 5, .goto_w 4]),
  (62, [.iinc 7 1, .jsr_w 1]),
  (68, [.lload 5, .lreturn])]
/-- IceSearchModel.isMet(III)Z -/
def am_b217 : List (Nat × List Instr) := [(0, [.iload 3, .aload 0, .getfield 1222, .iload 1, .iaload, .aload 0, .getfield 1223, .iload 1, .iaload, .invokestatic 191, .ifCond .eq 3, .goto_w 1]),
  (19, [.iload 2, .aload 0, .getfield 1221, .iload 1, .iaload, .invokestatic 218, .aload 0, .getfield 1224, .iload 1, .iaload, .if_icmp .gt 3, .goto_w 2]),
  (38, [.iconst 1, .goto 4]),
  (42, [.iconst 0, .goto_w 4]),
  (43, [.ireturn])]
/-- IceSearchModel.far(II)I -/
def am_b218 : List (Nat × List Instr) := [(0, [.iload 0, .iconst 16, .idiv, .iload 1, .iconst 16, .idiv, .isub, .invokestatic 66, .iload 0, .iconst 16, .irem, .iload 1, .iconst 16, .irem, .isub, .invokestatic 66, .invokestatic 67, .ireturn])]
/-- IceSearchModel.isAny()Z -/
def am_b219 : List (Nat × List Instr) := [(0, [.iconst 0, .istore 1, .iconst 0, .istore 2, .ret 1]),
  (4, [.iload 2, .iconst 256, .if_icmp .ge 7, .goto_w 2]),
  (11, [.iload 1, .ifCond .ne 4, .goto_w 3]),
  (15, [.aload 0, .iload 2, .invokevirtual 220, .ifCond .eq 5, .goto_w 4]),
  (23, [.iconst 1, .goto 6]),
  (27, [.iconst 0, .goto_w 6]),
  (28, [.istore 1, .iinc 2 1, .jsr_w 1]),
  (35, [.iload 1, .ireturn])]
/-- IceSearchModel.hasAll(I)Z -/
def am_b220 : List (Nat × List Instr) := [(0, [.aload 0, .getfield 1235, .iload 1, .laload, .iconst 1, .aload 0, .getfield 1231, .ishl, .iconst 1, .isub, .lushr, .jsr 1, .land, .jsr 1, .lcmp, .ifCond .ne 2, .goto_w 1]),
  (22, [.iconst 1, .goto 3]),
  (26, [.iconst 0, .goto_w 3]),
  (27, [.ireturn])]
/-- IceSearchModel.most(II)I -/
def am_b221 : List (Nat × List Instr) := [(0, [.iload 1, .invokestatic 197, .ifCond .eq 2, .goto_w 1]),
  (7, [.iload 2, .iconst 0, .iconst 1, .invokestatic 191, .ifCond .ne 3, .goto_w 2]),
  (16, [.iconst (-1), .ireturn]),
  (18, [.aload 0, .iload 1, .iconst (-1), .iconst (-1), .iconst 0, .invokevirtual 211, .iconst (-1), .istore 3, .iconst 0, .istore 4, .ret 4]),
  (31, [.iload 4, .iconst 1, .aload 0, .getfield 1231, .ishl, .if_icmp .ge 17, .goto_w 5]),
  (42, [.iconst 0, .istore 5, .iconst 0, .istore 6, .ret 6]),
  (48, [.iload 6, .iconst 256, .if_icmp .ge 12, .goto_w 7]),
  (56, [.iload 5, .ifCond .ne 9, .goto_w 8]),
  (61, [.aload 0, .getfield 1235, .iload 6, .laload, .iload 4, .lushr, .jsr 1, .land, .jsr 1, .lcmp, .ifCond .ne 10, .goto_w 9]),
  (78, [.iconst 1, .goto 11]),
  (82, [.iconst 0, .goto_w 11]),
  (83, [.istore 5, .iinc 6 1, .jsr_w 6]),
  (91, [.iload 5, .ifCond .eq 16, .goto_w 13]),
  (96, [.iload 3, .iconst (-1), .if_icmp .eq 15, .goto_w 14]),
  (101, [.iload 4, .invokestatic 222, .iload 3, .invokestatic 222, .if_icmp .le 16, .goto_w 15]),
  (113, [.iload 4, .istore 3, .goto_w 16]),
  (116, [.iinc 4 1, .jsr_w 4]),
  (122, [.iload 3, .iconst (-1), .if_icmp .eq 19, .goto_w 18]),
  (127, [.iload 2, .iconst 1, .if_icmp .ne 20, .goto_w 19]),
  (132, [.iload 3, .goto 21]),
  (136, [.iload 3, .invokestatic 222, .goto_w 21]),
  (140, [.ireturn])]
/-- IceSearchModel.bits(I)I -/
def am_b222 : List (Nat × List Instr) := [(0, [.iconst 0, .istore 1, .iload 0, .istore 2, .ret 1]),
  (4, [.iload 2, .ifCond .le 3, .goto_w 2]),
  (8, [.iload 1, .iload 2, .iconst 1, .iand, .iadd, .istore 1, .iload 2, .iconst 1, .ishr, .istore 2, .jsr_w 1]),
  (21, [.iload 1, .ireturn])]
/-- IceSearchModel.at(III)I -/
def am_b223 : List (Nat × List Instr) := [(0, [.iload 1, .invokestatic 197, .ifCond .eq 3, .goto_w 1]),
  (7, [.iload 2, .invokestatic 190, .ifCond .eq 3, .goto_w 2]),
  (14, [.iload 3, .iconst 0, .aload 0, .getfield 1205, .invokestatic 191, .ifCond .ne 4, .goto_w 3]),
  (26, [.iconst (-1), .ireturn]),
  (28, [.aload 0, .iload 1, .iload 2, .iload 3, .iconst 0, .invokevirtual 211, .aload 0, .invokevirtual 219, .invokestatic 199, .ireturn])]
/-- IceSearchModel.sure(II)I -/
def am_b224 : List (Nat × List Instr) := [(0, [.iload 1, .invokestatic 197, .ifCond .eq 2, .goto_w 1]),
  (7, [.iload 2, .invokestatic 190, .ifCond .ne 3, .goto_w 2]),
  (14, [.iconst (-1), .ireturn]),
  (16, [.aload 0, .iload 1, .iconst (-1), .iconst (-1), .iconst 0, .invokevirtual 211, .aload 0, .invokevirtual 219, .istore 3, .aload 0, .iload 1, .iload 2, .iconst (-1), .iconst 1, .invokevirtual 211, .iload 3, .ifCond .eq 6, .goto_w 4]),
  (41, [.aload 0, .invokevirtual 219, .ifCond .ne 6, .goto_w 5]),
  (48, [.iconst 1, .goto 7]),
  (52, [.iconst 0, .goto_w 7]),
  (53, [.invokestatic 199, .ireturn])]
/-- IceSearchModel.ends(I)I -/
def am_b225 : List (Nat × List Instr) := [(0, [.iload 1, .invokestatic 197, .ifCond .ne 2, .goto_w 1]),
  (7, [.iconst (-1), .ireturn]),
  (9, [.aload 0, .iload 1, .iconst (-1), .iconst (-1), .iconst 0, .invokevirtual 211, .iconst 0, .istore 2, .iconst 0, .istore 3, .ret 3]),
  (21, [.iload 3, .iconst 256, .if_icmp .ge 5, .goto_w 4]),
  (28, [.iload 2, .aload 0, .iload 3, .invokevirtual 220, .invokestatic 199, .iadd, .istore 2, .iinc 3 1, .jsr_w 3]),
  (45, [.iload 2, .ireturn])]
/-- IceSearchModel.move(I)I -/
def am_b226 : List (Nat × List Instr) := [(0, [.iload 1, .iconst 0, .iconst 8, .invokestatic 191, .ifCond .eq 2, .goto_w 1]),
  (10, [.aload 0, .getfield 1237, .iconst 119, .if_icmp .ne 3, .goto_w 2]),
  (19, [.iconst (-1), .ireturn]),
  (21, [.aload 0, .getfield 1238, .aload 0, .getfield 1237, .iload 1, .iastore, .aload 0, .dup, .getfield 1237, .iconst 1, .iadd, .putfield 1237, .aload 0, .getfield 1237, .ireturn])]
/-- IceSearchModel.clear()I -/
def am_b227 : List (Nat × List Instr) := [(0, [.aload 0, .getfield 1237, .istore 1, .aload 0, .iconst 0, .putfield 1237, .iload 1, .ireturn])]
/-- IceSearchModel.judge(I)I -/
def am_b228 : List (Nat × List Instr) := [(0, [.iload 1, .invokestatic 197, .ifCond .ne 2, .goto_w 1]),
  (7, [.iconst (-2), .ireturn]),
  (10, [.aload 0, .iload 1, .invokevirtual 198, .aload 0, .iload 1, .invokevirtual 208, .aload 0, .getfield 1201, .istore 2, .iconst 0, .istore 3, .iconst 0, .istore 4, .ret 3]),
  (30, [.iload 4, .aload 0, .getfield 1237, .if_icmp .gt 19, .goto_w 4]),
  (39, [.iload 4, .ifCond .ne 6, .goto_w 5]),
  (44, [.iload 2, .goto 7]),
  (48, [.iload 2, .aload 0, .getfield 1238, .iload 4, .iconst 1, .isub, .iaload, .invokestatic 214, .goto_w 7]),
  (61, [.istore 5, .iload 5, .iconst (-1), .if_icmp .eq 11, .goto_w 8]),
  (69, [.iload 5, .iload 2, .if_icmp .eq 10, .goto_w 9]),
  (75, [.aload 0, .iload 5, .iload 4, .invokevirtual 212, .ifCond .eq 11, .goto_w 10]),
  (86, [.aload 0, .iload 5, .iload 4, .invokevirtual 215, .ifCond .eq 12, .goto_w 11]),
  (97, [.iload 4, .ireturn]),
  (100, [.iload 5, .istore 2, .iconst 0, .istore 6, .ret 13]),
  (106, [.iload 6, .aload 0, .getfield 1231, .if_icmp .ge 18, .goto_w 14]),
  (115, [.iload 3, .aload 0, .aload 0, .getfield 1233, .iload 6, .iaload, .iload 2, .iload 4, .invokevirtual 217, .ifCond .eq 16, .goto_w 15]),
  (133, [.iconst 1, .iload 6, .ishl, .goto 17]),
  (140, [.iconst 0, .goto_w 17]),
  (141, [.ior, .istore 3, .iinc 6 1, .jsr_w 13]),
  (149, [.iinc 4 1, .jsr_w 3]),
  (155, [.iconst 0, .istore 4, .ret 20]),
  (158, [.iload 4, .aload 0, .getfield 1231, .if_icmp .ge 24, .goto_w 21]),
  (167, [.iload 3, .iload 4, .ishr, .iconst 1, .iand, .ifCond .ne 23, .goto_w 22]),
  (176, [.iconst 1000, .aload 0, .getfield 1233, .iload 4, .iaload, .iadd, .ireturn]),
  (188, [.iinc 4 1, .jsr_w 20]),
  (194, [.iconst (-1), .ireturn])]
/-- IceSearchModel.alive(I)I -/
def am_b229 : List (Nat × List Instr) := [(0, [.iload 1, .iconst 0, .iconst 119, .invokestatic 191, .ifCond .ne 2, .goto_w 1]),
  (10, [.iconst (-1), .ireturn]),
  (12, [.aload 0, .aload 0, .getfield 1202, .putfield 1239, .aload 0, .aload 0, .getfield 1203, .putfield 1240, .iconst 1, .istore 2, .ret 3]),
  (30, [.iload 2, .iload 1, .if_icmp .gt 5, .goto_w 4]),
  (35, [.aload 0, .invokevirtual 230, .iinc 2 1, .jsr_w 3]),
  (45, [.aload 0, .getfield 1239, .ireturn])]
/-- IceSearchModel.eats()V -/
def am_b230 : List (Nat × List Instr) := [(0, [.aload 0, .getfield 1240, .aload 0, .getfield 1239, .if_icmp .lt 2, .goto_w 1]),
  (11, [.aload 0, .dup, .getfield 1240, .aload 0, .getfield 1239, .isub, .putfield 1240, .return_]),
  (25, [.aload 0, .iconst 0, .putfield 1240, .aload 0, .iconst 0, .aload 0, .getfield 1239, .aload 0, .getfield 1239, .iconst 10, .idiv, .isub, .iconst 1, .isub, .invokestatic 67, .putfield 1239, .return_])]
/-- IceSearchModel.chance(III)I -/
def am_b231 : List (Nat × List Instr) := [(0, [.iload 1, .invokestatic 197, .ifCond .eq 3, .goto_w 1]),
  (7, [.iload 2, .invokestatic 190, .ifCond .eq 3, .goto_w 2]),
  (14, [.iload 3, .iconst 0, .aload 0, .getfield 1205, .invokestatic 191, .ifCond .ne 4, .goto_w 3]),
  (26, [.iconst (-1), .ireturn]),
  (28, [.aload 0, .iload 1, .iload 3, .iconst (-1), .invokevirtual 232, .aload 0, .getfield 1241, .iload 2, .laload, .l2i, .ireturn])]
/-- IceSearchModel.drifts(III)V -/
def am_b232 : List (Nat × List Instr) := [(0, [.aload 0, .iload 1, .invokevirtual 198, .iconst 0, .istore 4, .ret 1]),
  (8, [.iload 4, .iconst 256, .if_icmp .ge 6, .goto_w 2]),
  (16, [.aload 0, .getfield 1241, .iload 4, .iload 4, .aload 0, .getfield 1201, .if_icmp .ne 4, .goto_w 3]),
  (31, [.jsr 1000000000, .goto 5]),
  (37, [.jsr 0, .goto_w 5]),
  (38, [.lastore, .iinc 4 1, .jsr_w 1]),
  (45, [.iconst 1, .istore 4, .ret 7]),
  (48, [.iload 4, .iload 2, .if_icmp .gt 27, .goto_w 8]),
  (54, [.iconst 0, .istore 5, .ret 9]),
  (57, [.iload 5, .iconst 256, .if_icmp .ge 11, .goto_w 10]),
  (65, [.aload 0, .getfield 1242, .iload 5, .jsr 0, .lastore, .iinc 5 1, .jsr_w 9]),
  (79, [.iconst 0, .istore 5, .ret 12]),
  (82, [.iload 5, .iconst 256, .if_icmp .ge 16, .goto_w 13]),
  (90, [.aload 0, .getfield 1241, .iload 5, .laload, .jsr 0, .lcmp, .ifCond .le 15, .goto_w 14]),
  (102, [.aload 0, .iload 5, .iload 4, .invokevirtual 233, .goto_w 15]),
  (110, [.iinc 5 1, .jsr_w 12]),
  (116, [.iconst 0, .istore 5, .ret 17]),
  (119, [.iload 5, .iconst 256, .if_icmp .ge 19, .goto_w 18]),
  (127, [.aload 0, .getfield 1241, .iload 5, .aload 0, .getfield 1242, .iload 5, .laload, .lastore, .iinc 5 1, .jsr_w 17]),
  (147, [.iconst 0, .istore 5, .ret 20]),
  (150, [.iload 5, .aload 0, .getfield 1216, .if_icmp .ge 26, .goto_w 21]),
  (159, [.iload 5, .iload 3, .if_icmp .eq 25, .goto_w 22]),
  (165, [.aload 0, .iload 5, .iload 1, .invokevirtual 209, .ifCond .eq 25, .goto_w 23]),
  (175, [.iload 4, .aload 0, .getfield 1222, .iload 5, .iaload, .aload 0, .getfield 1223, .iload 5, .iaload, .invokestatic 191, .ifCond .eq 25, .goto_w 24]),
  (197, [.aload 0, .iload 5, .iload 4, .invokevirtual 234, .goto_w 25]),
  (205, [.iinc 5 1, .jsr_w 20]),
  (211, [.iinc 4 1, .jsr_w 7]),
  (217, [.return_])]
/-- IceSearchModel.parts(II)V -/
def am_b233 : List (Nat × List Instr) := [(0, [.iconst 1, .istore 3, .iconst 1, .istore 4, .ret 1]),
  (5, [.iload 4, .iconst 9, .if_icmp .ge 7, .goto_w 2]),
  (12, [.iload 3, .iload 1, .iload 4, .invokestatic 214, .iconst (-1), .if_icmp .eq 5, .goto_w 3]),
  (23, [.aload 0, .iload 1, .iload 4, .invokestatic 214, .iload 2, .invokevirtual 212, .ifCond .eq 5, .goto_w 4]),
  (37, [.iconst 1, .goto 6]),
  (41, [.iconst 0, .goto_w 6]),
  (42, [.invokestatic 199, .iadd, .istore 3, .iinc 4 1, .jsr_w 1]),
  (53, [.aload 0, .getfield 1241, .iload 1, .laload, .iload 3, .i2l, .ldiv, .lstore 4, .aload 0, .getfield 1242, .iload 1, .dup2, .laload, .aload 0, .getfield 1241, .iload 1, .laload, .lload 4, .iload 3, .iconst 1, .isub, .i2l, .lmul, .lsub, .ladd, .lastore, .iconst 1, .istore 6, .ret 8]),
  (90, [.iload 6, .iconst 9, .if_icmp .ge 13, .goto_w 9]),
  (97, [.iload 1, .iload 6, .invokestatic 214, .iconst (-1), .if_icmp .eq 12, .goto_w 10]),
  (107, [.aload 0, .iload 1, .iload 6, .invokestatic 214, .iload 2, .invokevirtual 212, .ifCond .eq 12, .goto_w 11]),
  (121, [.aload 0, .getfield 1242, .iload 1, .iload 6, .invokestatic 214, .dup2, .laload, .lload 4, .ladd, .lastore, .goto_w 12]),
  (137, [.iinc 6 1, .jsr_w 8]),
  (143, [.return_])]
/-- IceSearchModel.acts(II)V -/
def am_b234 : List (Nat × List Instr) := [(0, [.aload 0, .getfield 1220, .iload 1, .iaload, .iconst 4, .if_icmp .ne 2, .goto_w 1]),
  (10, [.aload 0, .getfield 1241, .aload 0, .getfield 1221, .iload 1, .iaload, .aload 0, .getfield 1241, .aload 0, .getfield 1221, .iload 1, .iaload, .laload, .iconst 100, .aload 0, .getfield 1224, .iload 1, .iaload, .isub, .i2l, .lmul, .jsr 100, .ldiv, .lastore, .goto_w 2]),
  (47, [.iconst 0, .istore 3, .ret 3]),
  (49, [.iload 3, .iconst 256, .if_icmp .ge 9, .goto_w 4]),
  (56, [.aload 0, .getfield 1220, .iload 1, .iaload, .iconst 4, .if_icmp .eq 9, .goto_w 5]),
  (66, [.iload 2, .aload 0, .getfield 1223, .iload 1, .iaload, .if_icmp .ne 9, .goto_w 6]),
  (76, [.iload 3, .aload 0, .getfield 1221, .iload 1, .iaload, .invokestatic 218, .aload 0, .getfield 1224, .iload 1, .iaload, .if_icmp .le 8, .goto_w 7]),
  (95, [.aload 0, .getfield 1241, .iload 3, .aload 0, .getfield 1241, .iload 3, .laload, .iconst 100, .aload 0, .iload 1, .invokevirtual 206, .isub, .i2l, .lmul, .jsr 100, .ldiv, .lastore, .goto_w 8]),
  (121, [.iinc 3 1, .jsr_w 3]),
  (127, [.return_])]
/-- IceSearchModel.left(II)I -/
def am_b235 : List (Nat × List Instr) := [(0, [.iload 1, .invokestatic 197, .ifCond .eq 2, .goto_w 1]),
  (7, [.iload 2, .iconst 0, .aload 0, .getfield 1205, .invokestatic 191, .ifCond .ne 3, .goto_w 2]),
  (19, [.iconst (-1), .ireturn]),
  (21, [.aload 0, .iload 1, .iload 2, .iconst (-1), .invokevirtual 232, .jsr 0, .lstore 3, .iconst 0, .istore 5, .ret 4]),
  (33, [.iload 5, .iconst 256, .if_icmp .ge 6, .goto_w 5]),
  (41, [.lload 3, .aload 0, .getfield 1241, .iload 5, .laload, .ladd, .lstore 3, .iinc 5 1, .jsr_w 4]),
  (57, [.lload 3, .l2i, .ireturn])]
/-- IceSearchModel.lead(IIII)I -/
def am_b236 : List (Nat × List Instr) := [(0, [.iload 1, .invokestatic 197, .ifCond .eq 4, .goto_w 1]),
  (7, [.iload 2, .invokestatic 190, .ifCond .eq 4, .goto_w 2]),
  (14, [.iload 3, .iconst 0, .aload 0, .getfield 1205, .invokestatic 191, .ifCond .eq 4, .goto_w 3]),
  (26, [.iload 4, .iconst 0, .aload 0, .getfield 1216, .iconst 1, .isub, .invokestatic 191, .ifCond .ne 5, .goto_w 4]),
  (41, [.iconst (-2000000000), .ireturn]),
  (45, [.aload 0, .iload 1, .iload 3, .iconst (-1), .invokevirtual 232, .aload 0, .getfield 1241, .iload 2, .laload, .lstore 5, .aload 0, .iload 1, .iload 3, .iload 4, .invokevirtual 232, .lload 5, .aload 0, .getfield 1241, .iload 2, .laload, .lsub, .l2i, .ireturn])]
/-- IceSearchModel.ship(III)I -/
def am_b237 : List (Nat × List Instr) := [(0, [.iload 1, .invokestatic 190, .ifCond .eq 4, .goto_w 1]),
  (7, [.iload 2, .iconst 0, .iconst 20, .invokestatic 191, .ifCond .eq 4, .goto_w 2]),
  (17, [.iload 3, .iconst 1, .iconst 100, .invokestatic 191, .ifCond .eq 4, .goto_w 3]),
  (27, [.aload 0, .getfield 1243, .iconst 4, .if_icmp .ne 5, .goto_w 4]),
  (35, [.iconst (-1), .ireturn]),
  (37, [.aload 0, .getfield 1244, .aload 0, .getfield 1243, .iload 1, .iastore, .aload 0, .getfield 1245, .aload 0, .getfield 1243, .iload 2, .iastore, .aload 0, .getfield 1246, .aload 0, .getfield 1243, .iload 3, .iastore, .aload 0, .dup, .getfield 1243, .iconst 1, .iadd, .putfield 1243, .aload 0, .getfield 1243, .iconst 1, .isub, .ireturn])]
/-- IceSearchModel.trip(II)I -/
def am_b238 : List (Nat × List Instr) := [(0, [.iload 1, .iconst 0, .aload 0, .getfield 1243, .iconst 1, .isub, .invokestatic 191, .ifCond .eq 2, .goto_w 1]),
  (14, [.iload 2, .invokestatic 190, .ifCond .ne 3, .goto_w 2]),
  (21, [.iconst (-1), .ireturn]),
  (23, [.aload 0, .iload 1, .invokevirtual 239, .aload 0, .getfield 1247, .iload 2, .iaload, .ireturn])]
/-- IceSearchModel.sails(I)V -/
def am_b239 : List (Nat × List Instr) := [(0, [.aload 0, .aload 0, .getfield 1200, .invokevirtual 198, .iconst 0, .istore 2, .ret 1]),
  (10, [.iload 2, .iconst 256, .if_icmp .ge 6, .goto_w 2]),
  (17, [.aload 0, .getfield 1247, .iload 2, .iload 2, .aload 0, .getfield 1244, .iload 1, .iaload, .if_icmp .ne 4, .goto_w 3]),
  (32, [.iconst 0, .goto 5]),
  (36, [.iconst (-1), .goto_w 5]),
  (37, [.iastore, .iinc 2 1, .jsr_w 1]),
  (44, [.iconst 1, .istore 2, .ret 7]),
  (46, [.iload 2, .aload 0, .getfield 1245, .iload 1, .iaload, .if_icmp .gt 28, .goto_w 8]),
  (56, [.iconst 0, .istore 3, .ret 9]),
  (58, [.iload 3, .iconst 256, .if_icmp .ge 27, .goto_w 10]),
  (65, [.aload 0, .getfield 1247, .iload 3, .iaload, .iconst (-1), .if_icmp .ne 26, .goto_w 11]),
  (75, [.aload 0, .getfield 1207, .iload 3, .baload, .ifCond .ne 14, .goto_w 12]),
  (84, [.aload 0, .iload 3, .aload 0, .getfield 1205, .iconst 10, .idiv, .invokevirtual 213, .ifCond .ne 14, .goto_w 13]),
  (99, [.goto 26]),
  (102, [.iconst 0, .istore 4, .iconst 1, .istore 5, .ret 15]),
  (108, [.iload 5, .iconst 9, .if_icmp .ge 24, .goto_w 16]),
  (115, [.iload 3, .iload 5, .invokestatic 214, .istore 6, .iload 4, .ifCond .ne 21, .goto_w 17]),
  (128, [.iload 6, .iconst (-1), .if_icmp .eq 22, .goto_w 18]),
  (134, [.aload 0, .getfield 1247, .iload 6, .iaload, .iload 2, .iconst 1, .isub, .if_icmp .ne 22, .goto_w 19]),
  (147, [.iload 6, .aload 0, .getfield 1244, .iload 1, .iaload, .if_icmp .eq 21, .goto_w 20]),
  (158, [.aload 0, .iload 6, .aload 0, .getfield 1205, .iconst 10, .idiv, .invokevirtual 213, .ifCond .eq 22, .goto_w 21]),
  (174, [.iconst 1, .goto 23]),
  (178, [.iconst 0, .goto_w 23]),
  (179, [.istore 4, .iinc 5 1, .jsr_w 15]),
  (187, [.iload 4, .ifCond .eq 26, .goto_w 25]),
  (192, [.aload 0, .getfield 1247, .iload 3, .iload 2, .iastore, .goto_w 26]),
  (199, [.iinc 3 1, .jsr_w 9]),
  (205, [.iinc 2 1, .jsr_w 7]),
  (211, [.return_])]
/-- IceSearchModel.best(I)I -/
def am_b240 : List (Nat × List Instr) := [(0, [.aload 0, .getfield 1243, .ifCond .eq 3, .goto_w 1]),
  (7, [.iload 1, .ifCond .eq 4, .goto_w 2]),
  (11, [.iload 1, .iconst 10, .iconst 9, .aload 0, .getfield 1243, .iadd, .invokestatic 191, .ifCond .ne 4, .goto_w 3]),
  (27, [.iconst (-1), .ireturn]),
  (29, [.aload 0, .aload 0, .getfield 1200, .aload 0, .getfield 1205, .iconst (-1), .invokevirtual 232, .iconst 0, .istore 2, .ret 5]),
  (44, [.iload 2, .aload 0, .getfield 1243, .if_icmp .ge 7, .goto_w 6]),
  (52, [.aload 0, .iload 2, .invokevirtual 241, .iinc 2 1, .jsr_w 5]),
  (63, [.aload 0, .jsr (-1), .putfield 1251, .aload 0, .iconst 0, .jsr 0, .invokevirtual 243, .aload 0, .getfield 1251, .jsr (-1), .lcmp, .ifCond .ne 9, .goto_w 8]),
  (87, [.iconst (-1), .goto 12]),
  (91, [.iload 1, .ifCond .ne 11, .goto_w 10]),
  (95, [.aload 0, .getfield 1251, .l2i, .goto 12]),
  (103, [.aload 0, .getfield 1250, .iload 1, .iconst 10, .isub, .iaload, .goto_w 12]),
  (112, [.ireturn])]
/-- IceSearchModel.bests(I)V -/
def am_b241 : List (Nat × List Instr) := [(0, [.aload 0, .iload 1, .invokevirtual 239, .iconst 0, .istore 2, .ret 1]),
  (7, [.iload 2, .iconst 4, .if_icmp .ge 20, .goto_w 2]),
  (12, [.iconst (-1), .istore 3, .iconst 0, .istore 4, .ret 3]),
  (17, [.iload 4, .iconst 256, .if_icmp .ge 19, .goto_w 4]),
  (25, [.aload 0, .getfield 1247, .iload 4, .iaload, .iconst (-1), .if_icmp .ne 6, .goto_w 5]),
  (36, [.iconst 1, .goto 7]),
  (40, [.iconst 0, .goto_w 7]),
  (41, [.istore 5, .iconst 0, .istore 6, .ret 8]),
  (46, [.iload 6, .iload 2, .if_icmp .ge 14, .goto_w 9]),
  (52, [.iload 5, .ifCond .ne 11, .goto_w 10]),
  (57, [.aload 0, .getfield 1248, .iconst 4, .iload 1, .imul, .iload 6, .iadd, .iaload, .iload 4, .if_icmp .ne 12, .goto_w 11]),
  (73, [.iconst 1, .goto 13]),
  (77, [.iconst 0, .goto_w 13]),
  (78, [.istore 5, .iinc 6 1, .jsr_w 8]),
  (86, [.iload 5, .ifCond .ne 18, .goto_w 15]),
  (91, [.iload 3, .iconst (-1), .if_icmp .eq 17, .goto_w 16]),
  (96, [.aload 0, .iload 1, .iload 4, .invokevirtual 242, .aload 0, .iload 1, .iload 3, .invokevirtual 242, .lcmp, .ifCond .le 18, .goto_w 17]),
  (113, [.iload 4, .istore 3, .goto_w 18]),
  (116, [.iinc 4 1, .jsr_w 3]),
  (122, [.aload 0, .getfield 1248, .iconst 4, .iload 1, .imul, .iload 2, .iadd, .iload 3, .iastore, .iinc 2 1, .jsr_w 1]),
  (139, [.return_])]
/-- IceSearchModel.finds(II)J -/
def am_b242 : List (Nat × List Instr) := [(0, [.aload 0, .getfield 1241, .iload 2, .laload, .aload 0, .getfield 1246, .iload 1, .iaload, .i2l, .lmul, .jsr 100, .ldiv, .lreturn])]
/-- IceSearchModel.rows(IJ)V -/
def am_b243 : List (Nat × List Instr) := [(0, [.iload 1, .aload 0, .getfield 1243, .if_icmp .ne 9, .goto_w 1]),
  (8, [.lload 2, .aload 0, .getfield 1251, .lcmp, .ifCond .lt 4, .goto_w 2]),
  (17, [.lload 2, .aload 0, .getfield 1251, .lcmp, .ifCond .ne 5, .goto_w 3]),
  (26, [.aload 0, .invokevirtual 244, .ifCond .ne 5, .goto_w 4]),
  (33, [.return_]),
  (34, [.aload 0, .lload 2, .putfield 1251, .iconst 0, .istore 4, .ret 6]),
  (42, [.iload 4, .aload 0, .getfield 1243, .if_icmp .ge 8, .goto_w 7]),
  (51, [.aload 0, .getfield 1250, .iload 4, .aload 0, .getfield 1249, .iload 4, .iaload, .iastore, .iinc 4 1, .jsr_w 6]),
  (71, [.return_]),
  (72, [.iconst 0, .istore 4, .ret 10]),
  (75, [.iload 4, .iconst 4, .if_icmp .ge 25, .goto_w 11]),
  (81, [.aload 0, .getfield 1248, .iconst 4, .iload 1, .imul, .iload 4, .iadd, .iaload, .istore 5, .iload 5, .iconst (-1), .if_icmp .ne 13, .goto_w 12]),
  (100, [.iconst 1, .goto 14]),
  (104, [.iconst 0, .goto_w 14]),
  (105, [.istore 6, .iconst 0, .istore 7, .ret 15]),
  (110, [.iload 7, .iload 1, .if_icmp .ge 21, .goto_w 16]),
  (116, [.iload 6, .ifCond .ne 18, .goto_w 17]),
  (121, [.aload 0, .getfield 1249, .iload 7, .iaload, .iload 5, .if_icmp .ne 19, .goto_w 18]),
  (133, [.iconst 1, .goto 20]),
  (137, [.iconst 0, .goto_w 20]),
  (138, [.istore 6, .iinc 7 1, .jsr_w 15]),
  (146, [.iload 6, .ifCond .eq 23, .goto_w 22]),
  (151, [.goto 24]),
  (154, [.aload 0, .getfield 1249, .iload 1, .iload 5, .iastore, .aload 0, .iload 1, .iconst 1, .iadd, .lload 2, .aload 0, .iload 1, .iload 5, .invokevirtual 242, .ladd, .invokevirtual 243, .goto_w 24]),
  (178, [.iinc 4 1, .jsr_w 10]),
  (184, [.return_])]
/-- IceSearchModel.isLess()Z -/
def am_b244 : List (Nat × List Instr) := [(0, [.iconst 0, .istore 1, .ret 1]),
  (2, [.iload 1, .aload 0, .getfield 1243, .if_icmp .ge 8, .goto_w 2]),
  (10, [.aload 0, .getfield 1249, .iload 1, .iaload, .aload 0, .getfield 1250, .iload 1, .iaload, .if_icmp .eq 7, .goto_w 3]),
  (25, [.aload 0, .getfield 1249, .iload 1, .iaload, .aload 0, .getfield 1250, .iload 1, .iaload, .if_icmp .ge 5, .goto_w 4]),
  (40, [.iconst 1, .goto 6]),
  (44, [.iconst 0, .goto_w 6]),
  (45, [.ireturn]),
  (46, [.iinc 1 1, .jsr_w 1]),
  (52, [.iconst 0, .ireturn])]
/-- IceSearchModel.feed(IIIII)I -/
def am_b245 : List (Nat × List Instr) := [(0, [.aload 0, .getfield 1254, .iconst 20, .iadd, .iconst 700, .if_icmp .le 2, .goto_w 1]),
  (13, [.iconst (-1), .ireturn]),
  (15, [.aload 0, .iload 1, .invokevirtual 246, .aload 0, .iload 2, .invokevirtual 246, .aload 0, .iload 3, .invokevirtual 246, .aload 0, .iload 4, .invokevirtual 246, .aload 0, .iload 5, .invokevirtual 246, .aload 0, .getfield 1254, .ireturn])]
/-- IceSearchModel.four(I)V -/
def am_b246 : List (Nat × List Instr) := [(0, [.iconst 24, .istore 2, .ret 1]),
  (3, [.iload 2, .ifCond .lt 3, .goto_w 2]),
  (7, [.aload 0, .getfield 1273, .aload 0, .getfield 1254, .iload 1, .iload 2, .ishr, .i2b, .bastore, .aload 0, .dup, .getfield 1254, .iconst 1, .iadd, .putfield 1254, .iinc 2 (-8), .jsr_w 1]),
  (36, [.return_])]
/-- IceSearchModel.rules(I)I -/
def am_b247 : List (Nat × List Instr) := [(0, [.iload 1, .iconst 0, .aload 0, .getfield 1254, .invokestatic 191, .ifCond .ne 2, .goto_w 1]),
  (12, [.iconst (-2), .ireturn]),
  (15, [.aload 0, .getfield 1252, .iconst 8, .if_icmp .ne 4, .goto_w 3]),
  (24, [.iconst (-3), .ireturn]),
  (27, [.aload 0, .iload 1, .invokevirtual 248, .ifCond .ne 6, .goto_w 5]),
  (35, [.iconst (-1), .ireturn]),
  (37, [.aload 0, .aload 0, .getfield 1252, .invokevirtual 263, .aload 0, .dup, .getfield 1252, .iconst 1, .iadd, .putfield 1252, .aload 0, .getfield 1252, .iconst 1, .isub, .ireturn])]
/-- IceSearchModel.reads(I)Z -/
def am_b248 : List (Nat × List Instr) := [(0, [.iconst 0, .istore 2, .ret 1]),
  (2, [.iload 2, .iload 1, .if_icmp .ge 3, .goto_w 2]),
  (7, [.aload 0, .getfield 1274, .iload 2, .aload 0, .getfield 1273, .iload 2, .baload, .bastore, .iinc 2 1, .jsr_w 1]),
  (25, [.aload 0, .iload 1, .putfield 1255, .aload 0, .iconst 0, .putfield 1254, .aload 0, .iconst 0, .putfield 1256, .aload 0, .iconst 0, .putfield 1253, .aload 0, .getfield 1260, .iconst 9, .iconst 0, .iastore, .iconst 1, .istore 2, .aload 0, .invokevirtual 249, .ret 4]),
  (59, [.iload 2, .ifCond .eq 13, .goto_w 5]),
  (63, [.aload 0, .getfield 1256, .aload 0, .getfield 1255, .if_icmp .ge 13, .goto_w 6]),
  (74, [.aload 0, .getfield 1260, .iconst 9, .iaload, .iconst 30, .if_icmp .ge 9, .goto_w 7]),
  (86, [.aload 0, .iconst 270, .aload 0, .getfield 1260, .iconst 9, .iaload, .iadd, .invokevirtual 250, .ifCond .eq 9, .goto_w 8]),
  (104, [.iconst 1, .goto 10]),
  (108, [.iconst 0, .goto_w 10]),
  (109, [.istore 2, .iload 2, .ifCond .ne 12, .goto_w 11]),
  (114, [.jsr_w 4]),
  (117, [.aload 0, .getfield 1260, .iconst 9, .dup2, .iaload, .iconst 1, .iadd, .iastore, .aload 0, .invokevirtual 249, .jsr_w 4]),
  (135, [.aload 0, .iload 2, .ifCond .eq 15, .goto_w 14]),
  (140, [.iconst (-1), .goto 16]),
  (144, [.aload 0, .getfield 1256, .goto_w 16]),
  (148, [.putfield 1258, .iload 2, .ireturn])]
/-- IceSearchModel.blanks()V -/
def am_b249 : List (Nat × List Instr) := [(0, [.aload 0, .getfield 1256, .aload 0, .getfield 1255, .if_icmp .ge 4, .goto_w 1]),
  (11, [.aload 0, .getfield 1274, .aload 0, .getfield 1256, .baload, .iconst 32, .if_icmp .eq 3, .goto_w 2]),
  (25, [.aload 0, .getfield 1274, .aload 0, .getfield 1256, .baload, .iconst 10, .if_icmp .ne 4, .goto_w 3]),
  (39, [.aload 0, .dup, .getfield 1256, .iconst 1, .iadd, .putfield 1256, .jsr_w 0]),
  (52, [.return_])]
/-- IceSearchModel.statement(I)Z -/
def am_b250 : List (Nat × List Instr) := [(0, [.aload 0, .getfield 1263, .iload 1, .iconst (-1), .iastore, .aload 0, .iload 1, .invokevirtual 251, .ifCond .ne 2, .goto_w 1]),
  (15, [.iconst 0, .ireturn]),
  (17, [.aload 0, .getfield 1265, .iload 1, .iconst (-1), .iastore, .aload 0, .jsr 26982, .invokevirtual 252, .ifCond .eq 5, .goto_w 3]),
  (34, [.aload 0, .iconst 0, .putfield 1257, .aload 0, .getfield 1265, .iload 1, .aload 0, .invokevirtual 257, .iastore, .aload 0, .getfield 1265, .iload 1, .iaload, .iconst (-1), .if_icmp .ne 5, .goto_w 4]),
  (59, [.iconst 0, .ireturn]),
  (61, [.aload 0, .iconst 59, .invokevirtual 261, .ireturn])]
/-- IceSearchModel.rule(I)Z -/
def am_b251 : List (Nat × List Instr) := [(0, [.aload 0, .jsr 26479, .invokevirtual 252, .ifCond .eq 2, .goto_w 1]),
  (10, [.aload 0, .iload 1, .iconst 0, .invokevirtual 254, .ireturn]),
  (17, [.aload 0, .jsr 2002873451, .invokevirtual 252, .ifCond .eq 4, .goto_w 3]),
  (27, [.aload 0, .iload 1, .iconst 1, .invokevirtual 254, .ireturn]),
  (34, [.aload 0, .jsr 7364985, .invokevirtual 252, .ifCond .eq 6, .goto_w 5]),
  (44, [.aload 0, .iload 1, .invokevirtual 255, .ireturn]),
  (50, [.aload 0, .getfield 1262, .iload 1, .aload 0, .jsr 1937006969, .invokevirtual 252, .ifCond .eq 8, .goto_w 7]),
  (65, [.iconst 2, .goto 11]),
  (69, [.aload 0, .jsr 465557354085, .invokevirtual 252, .ifCond .eq 10, .goto_w 9]),
  (79, [.iconst 3, .goto 11]),
  (83, [.iconst (-1), .goto_w 11]),
  (84, [.iastore, .aload 0, .getfield 1262, .iload 1, .iaload, .iconst (-1), .if_icmp .eq 13, .goto_w 12]),
  (95, [.iconst 1, .goto 14]),
  (99, [.iconst 0, .goto_w 14]),
  (100, [.ireturn])]
/-- IceSearchModel.takes(J)Z -/
def am_b252 : List (Nat × List Instr) := [(0, [.aload 0, .invokevirtual 253, .lload 1, .lcmp, .ifCond .eq 2, .goto_w 1]),
  (9, [.iconst 0, .ireturn]),
  (11, [.aload 0, .aload 0, .getfield 1275, .putfield 1256, .iconst 1, .ireturn])]
/-- IceSearchModel.word()J -/
def am_b253 : List (Nat × List Instr) := [(0, [.aload 0, .invokevirtual 249, .aload 0, .aload 0, .getfield 1256, .putfield 1275, .jsr 0, .lstore 1, .ret 1]),
  (14, [.aload 0, .getfield 1275, .aload 0, .getfield 1255, .if_icmp .ge 8, .goto_w 2]),
  (25, [.aload 0, .getfield 1274, .aload 0, .getfield 1275, .baload, .iconst 97, .if_icmp .lt 8, .goto_w 3]),
  (39, [.aload 0, .getfield 1274, .aload 0, .getfield 1275, .baload, .iconst 122, .if_icmp .gt 8, .goto_w 4]),
  (53, [.aload 0, .getfield 1275, .aload 0, .getfield 1256, .isub, .iconst 7, .if_icmp .ge 6, .goto_w 5]),
  (67, [.lload 1, .iconst 8, .lshl, .aload 0, .getfield 1274, .aload 0, .getfield 1275, .baload, .i2l, .lor, .goto 7]),
  (85, [.jsr 0, .goto_w 7]),
  (86, [.lstore 1, .aload 0, .dup, .getfield 1275, .iconst 1, .iadd, .putfield 1275, .jsr_w 1]),
  (100, [.aload 0, .getfield 1275, .aload 0, .getfield 1256, .isub, .iconst 7, .if_icmp .le 10, .goto_w 9]),
  (114, [.jsr 0, .goto 11]),
  (118, [.lload 1, .goto_w 11]),
  (119, [.lreturn])]
/-- IceSearchModel.way(II)Z -/
def am_b254 : List (Nat × List Instr) := [(0, [.aload 0, .getfield 1262, .iload 1, .iload 2, .iastore, .aload 0, .getfield 1263, .iload 1, .aload 0, .jsr 474316174440, .invokevirtual 252, .ifCond .eq 2, .goto_w 1]),
  (22, [.iconst 1, .goto 9]),
  (26, [.aload 0, .jsr 1700885364, .invokevirtual 252, .ifCond .eq 4, .goto_w 3]),
  (36, [.iconst 3, .goto 9]),
  (40, [.aload 0, .jsr 495791207528, .invokevirtual 252, .ifCond .eq 6, .goto_w 5]),
  (50, [.iconst 5, .goto 9]),
  (54, [.aload 0, .jsr 2003137396, .invokevirtual 252, .ifCond .eq 8, .goto_w 7]),
  (64, [.iconst 7, .goto 9]),
  (69, [.iconst (-1), .goto_w 9]),
  (70, [.iastore, .aload 0, .getfield 1263, .iload 1, .iaload, .iconst (-1), .if_icmp .eq 11, .goto_w 10]),
  (81, [.iconst 1, .goto 12]),
  (85, [.iconst 0, .goto_w 12]),
  (86, [.ireturn])]
/-- IceSearchModel.pay(I)Z -/
def am_b255 : List (Nat × List Instr) := [(0, [.aload 0, .getfield 1262, .iload 1, .iconst 4, .iastore, .aload 0, .invokevirtual 256, .ifCond .ne 2, .goto_w 1]),
  (14, [.iconst 0, .ireturn]),
  (16, [.aload 0, .getfield 1264, .iload 1, .aload 0, .getfield 1276, .iastore, .aload 0, .jsr 6713202, .invokevirtual 252, .ifCond .ne 4, .goto_w 3]),
  (36, [.iconst 0, .ireturn]),
  (38, [.aload 0, .getfield 1263, .iload 1, .aload 0, .jsr 482671093106, .invokevirtual 252, .ifCond .eq 6, .goto_w 5]),
  (53, [.iconst 0, .goto 15]),
  (57, [.aload 0, .jsr 444300621413, .invokevirtual 252, .ifCond .eq 8, .goto_w 7]),
  (67, [.iconst 1, .goto 15]),
  (71, [.aload 0, .jsr 1953459300, .invokevirtual 252, .ifCond .eq 10, .goto_w 9]),
  (81, [.iconst 2, .goto 15]),
  (85, [.aload 0, .jsr 108230850603124, .invokevirtual 252, .ifCond .eq 12, .goto_w 11]),
  (95, [.iconst 3, .goto 15]),
  (99, [.aload 0, .jsr 31084793196801639, .invokevirtual 252, .ifCond .eq 14, .goto_w 13]),
  (109, [.iconst 4, .goto 15]),
  (113, [.iconst (-1), .goto_w 15]),
  (114, [.iastore, .aload 0, .getfield 1263, .iload 1, .iaload, .iconst (-1), .if_icmp .eq 17, .goto_w 16]),
  (125, [.iconst 1, .goto 18]),
  (129, [.iconst 0, .goto_w 18]),
  (130, [.ireturn])]
/-- IceSearchModel.takesNumber()Z -/
def am_b256 : List (Nat × List Instr) := [(0, [.aload 0, .invokevirtual 249, .aload 0, .getfield 1256, .istore 1, .aload 0, .iconst 0, .putfield 1276, .ret 1]),
  (14, [.iload 1, .aload 0, .getfield 1255, .if_icmp .ge 7, .goto_w 2]),
  (22, [.aload 0, .getfield 1274, .iload 1, .baload, .iconst 48, .if_icmp .lt 7, .goto_w 3]),
  (33, [.aload 0, .getfield 1274, .iload 1, .baload, .iconst 57, .if_icmp .gt 7, .goto_w 4]),
  (44, [.iload 1, .aload 0, .getfield 1256, .isub, .iconst 5, .if_icmp .ge 6, .goto_w 5]),
  (54, [.aload 0, .iconst 10, .aload 0, .getfield 1276, .imul, .aload 0, .getfield 1274, .iload 1, .baload, .iadd, .iconst 48, .isub, .putfield 1276, .goto_w 6]),
  (75, [.iinc 1 1, .jsr_w 1]),
  (81, [.iload 1, .aload 0, .getfield 1256, .if_icmp .eq 9, .goto_w 8]),
  (89, [.iload 1, .aload 0, .getfield 1256, .isub, .iconst 5, .if_icmp .le 10, .goto_w 9]),
  (99, [.iconst 0, .ireturn]),
  (101, [.aload 0, .iload 1, .putfield 1256, .iconst 1, .ireturn])]
/-- IceSearchModel.any()I -/
def am_b257 : List (Nat × List Instr) := [(0, [.aload 0, .iconst 0, .invokevirtual 258, .istore 1, .iconst (-1), .istore 2, .ret 1]),
  (8, [.aload 0, .invokevirtual 259, .istore 3, .iload 3, .iconst (-1), .if_icmp .ne 3, .goto_w 2]),
  (18, [.iconst (-1), .ireturn]),
  (20, [.iload 2, .iconst (-1), .if_icmp .ne 5, .goto_w 4]),
  (25, [.aload 0, .getfield 1267, .iload 1, .iload 3, .iastore, .goto 6]),
  (35, [.aload 0, .getfield 1268, .iload 2, .iload 3, .iastore, .goto_w 6]),
  (42, [.iload 3, .istore 2, .aload 0, .jsr 28530, .invokevirtual 252, .ifCond .ne 8, .goto_w 7]),
  (54, [.iload 1, .ireturn]),
  (8, [.ret 1])]
/-- IceSearchModel.node(I)I -/
def am_b258 : List (Nat × List Instr) := [(0, [.iconst 6480, .aload 0, .getfield 1253, .iadd, .istore 2, .aload 0, .getfield 1266, .iload 2, .iload 1, .iastore, .aload 0, .getfield 1267, .iload 2, .iconst (-1), .iastore, .aload 0, .getfield 1268, .iload 2, .iconst (-1), .iastore, .aload 0, .dup, .getfield 1253, .iconst 1, .iadd, .putfield 1253, .iload 2, .ireturn])]
/-- IceSearchModel.all()I -/
def am_b259 : List (Nat × List Instr) := [(0, [.aload 0, .iconst 1, .invokevirtual 258, .istore 1, .iconst (-1), .istore 2, .ret 1]),
  (8, [.aload 0, .invokevirtual 260, .istore 3, .iload 3, .iconst (-1), .if_icmp .ne 3, .goto_w 2]),
  (18, [.iconst (-1), .ireturn]),
  (20, [.iload 2, .iconst (-1), .if_icmp .ne 5, .goto_w 4]),
  (25, [.aload 0, .getfield 1267, .iload 1, .iload 3, .iastore, .goto 6]),
  (35, [.aload 0, .getfield 1268, .iload 2, .iload 3, .iastore, .goto_w 6]),
  (42, [.iload 3, .istore 2, .aload 0, .jsr 6385252, .invokevirtual 252, .ifCond .ne 8, .goto_w 7]),
  (54, [.iload 1, .ireturn]),
  (8, [.ret 1])]
/-- IceSearchModel.single()I -/
def am_b260 : List (Nat × List Instr) := [(0, [.aload 0, .invokevirtual 253, .jsr 7237492, .lcmp, .ifCond .ne 7, .goto_w 1]),
  (11, [.aload 0, .getfield 1257, .iconst 10, .if_icmp .ne 3, .goto_w 2]),
  (20, [.iconst (-1), .ireturn]),
  (22, [.aload 0, .dup, .getfield 1257, .iconst 1, .iadd, .putfield 1257, .aload 0, .aload 0, .getfield 1275, .putfield 1256, .aload 0, .iconst 2, .invokevirtual 258, .istore 1, .aload 0, .invokevirtual 260, .istore 2, .aload 0, .getfield 1267, .iload 1, .iload 2, .iastore, .aload 0, .dup, .getfield 1257, .iconst 1, .isub, .putfield 1257, .iload 2, .iconst (-1), .if_icmp .ne 5, .goto_w 4]),
  (73, [.iconst (-1), .goto 6]),
  (77, [.iload 1, .goto_w 6]),
  (78, [.ireturn]),
  (79, [.aload 0, .getfield 1256, .aload 0, .getfield 1255, .if_icmp .ge 16, .goto_w 8]),
  (90, [.aload 0, .getfield 1274, .aload 0, .getfield 1256, .baload, .iconst 40, .if_icmp .ne 16, .goto_w 9]),
  (104, [.aload 0, .getfield 1257, .iconst 10, .if_icmp .ne 11, .goto_w 10]),
  (113, [.iconst (-1), .ireturn]),
  (115, [.aload 0, .dup, .getfield 1257, .iconst 1, .iadd, .putfield 1257, .aload 0, .dup, .getfield 1256, .iconst 1, .iadd, .putfield 1256, .aload 0, .invokevirtual 257, .istore 1, .aload 0, .dup, .getfield 1257, .iconst 1, .isub, .putfield 1257, .iload 1, .iconst (-1), .if_icmp .eq 13, .goto_w 12]),
  (155, [.aload 0, .iconst 41, .invokevirtual 261, .ifCond .ne 14, .goto_w 13]),
  (164, [.iconst (-1), .goto 15]),
  (168, [.iload 1, .goto_w 15]),
  (169, [.ireturn]),
  (170, [.aload 0, .iconst 3, .invokevirtual 258, .istore 1, .aload 0, .getfield 1269, .iload 1, .aload 0, .invokevirtual 253, .invokestatic 262, .iastore, .aload 0, .getfield 1269, .iload 1, .iaload, .iconst (-1), .if_icmp .ne 18, .goto_w 17]),
  (199, [.iconst (-1), .ireturn]),
  (201, [.aload 0, .aload 0, .getfield 1275, .putfield 1256, .aload 0, .getfield 1270, .iload 1, .aload 0, .iconst 60, .invokevirtual 261, .ifCond .eq 20, .goto_w 19]),
  (223, [.iconst 60, .goto 25]),
  (228, [.aload 0, .iconst 62, .invokevirtual 261, .ifCond .eq 22, .goto_w 21]),
  (237, [.iconst 62, .goto 25]),
  (242, [.aload 0, .iconst 61, .invokevirtual 261, .ifCond .eq 24, .goto_w 23]),
  (251, [.iconst 61, .goto 25]),
  (256, [.iconst (-1), .goto_w 25]),
  (257, [.iastore, .aload 0, .getfield 1270, .iload 1, .iaload, .iconst (-1), .if_icmp .eq 27, .goto_w 26]),
  (268, [.aload 0, .invokevirtual 256, .ifCond .ne 28, .goto_w 27]),
  (275, [.iconst (-1), .ireturn]),
  (277, [.aload 0, .getfield 1271, .iload 1, .aload 0, .getfield 1276, .iastore, .iload 1, .ireturn])]
/-- IceSearchModel.takesSign(I)Z -/
def am_b261 : List (Nat × List Instr) := [(0, [.aload 0, .invokevirtual 249, .aload 0, .getfield 1256, .aload 0, .getfield 1255, .if_icmp .eq 2, .goto_w 1]),
  (15, [.aload 0, .getfield 1274, .aload 0, .getfield 1256, .baload, .iload 1, .if_icmp .eq 3, .goto_w 2]),
  (28, [.iconst 0, .ireturn]),
  (30, [.aload 0, .dup, .getfield 1256, .iconst 1, .iadd, .putfield 1256, .iconst 1, .ireturn])]
/-- IceSearchModel.asked(J)I -/
def am_b262 : List (Nat × List Instr) := [(0, [.lload 0, .jsr 2036687218, .lcmp, .ifCond .ne 2, .goto_w 1]),
  (8, [.iconst 0, .goto 17]),
  (12, [.lload 0, .jsr 1937007984, .lcmp, .ifCond .ne 4, .goto_w 3]),
  (20, [.iconst 1, .goto 17]),
  (24, [.lload 0, .jsr 1718579044, .lcmp, .ifCond .ne 6, .goto_w 5]),
  (32, [.iconst 2, .goto 17]),
  (36, [.lload 0, .jsr 7169390, .lcmp, .ifCond .ne 8, .goto_w 7]),
  (44, [.iconst 3, .goto 17]),
  (48, [.lload 0, .jsr 474316174440, .lcmp, .ifCond .ne 10, .goto_w 9]),
  (56, [.iconst 4, .goto 17]),
  (60, [.lload 0, .jsr 1700885364, .lcmp, .ifCond .ne 12, .goto_w 11]),
  (68, [.iconst 5, .goto 17]),
  (72, [.lload 0, .jsr 495791207528, .lcmp, .ifCond .ne 14, .goto_w 13]),
  (80, [.iconst 6, .goto 17]),
  (85, [.lload 0, .jsr 2003137396, .lcmp, .ifCond .ne 16, .goto_w 15]),
  (93, [.iconst 7, .goto 17]),
  (98, [.iconst (-1), .goto_w 17]),
  (99, [.istore 2, .iload 2, .iconst (-1), .if_icmp .eq 19, .goto_w 18]),
  (105, [.iload 2, .goto 28]),
  (109, [.lload 0, .jsr 418330406772, .lcmp, .ifCond .ne 21, .goto_w 20]),
  (117, [.iconst 8, .goto 28]),
  (122, [.lload 0, .jsr 491327153000, .lcmp, .ifCond .ne 23, .goto_w 22]),
  (130, [.iconst 9, .goto 28]),
  (135, [.lload 0, .jsr 500136506228, .lcmp, .ifCond .ne 25, .goto_w 24]),
  (143, [.iconst 10, .goto 28]),
  (148, [.lload 0, .jsr 439855772532, .lcmp, .ifCond .ne 27, .goto_w 26]),
  (156, [.iconst 11, .goto 28]),
  (161, [.iconst (-1), .goto_w 28]),
  (162, [.ireturn])]
/-- IceSearchModel.becomes(I)V -/
def am_b263 : List (Nat × List Instr) := [(0, [.iconst 720, .iload 1, .iconst 9, .isub, .imul, .istore 2, .aload 0, .getfield 1260, .iload 1, .aload 0, .getfield 1260, .iconst 9, .iaload, .iastore, .aload 0, .getfield 1261, .iload 1, .aload 0, .getfield 1200, .iastore, .iconst 0, .istore 3, .ret 1]),
  (34, [.iload 3, .aload 0, .getfield 1260, .iload 1, .iaload, .if_icmp .ge 6, .goto_w 2]),
  (44, [.iconst 270, .iload 3, .iadd, .istore 4, .iconst 30, .iload 1, .imul, .iload 3, .iadd, .istore 5, .aload 0, .getfield 1262, .iload 5, .aload 0, .getfield 1262, .iload 4, .iaload, .iastore, .aload 0, .getfield 1263, .iload 5, .aload 0, .getfield 1263, .iload 4, .iaload, .iastore, .aload 0, .getfield 1264, .iload 5, .aload 0, .getfield 1264, .iload 4, .iaload, .iastore, .aload 0, .getfield 1265, .iload 5, .aload 0, .getfield 1265, .iload 4, .iaload, .iconst (-1), .if_icmp .ne 4, .goto_w 3]),
  (118, [.iconst (-1), .goto 5]),
  (122, [.aload 0, .getfield 1265, .iload 4, .iaload, .iload 2, .iadd, .goto_w 5]),
  (131, [.iastore, .iinc 3 1, .jsr_w 1]),
  (138, [.iconst 6480, .istore 3, .ret 7]),
  (142, [.iload 3, .iconst 6480, .aload 0, .getfield 1253, .iadd, .if_icmp .ge 15, .goto_w 8]),
  (154, [.aload 0, .getfield 1266, .iload 3, .iload 2, .iadd, .aload 0, .getfield 1266, .iload 3, .iaload, .iastore, .aload 0, .getfield 1267, .iload 3, .iload 2, .iadd, .aload 0, .getfield 1267, .iload 3, .iaload, .iconst (-1), .if_icmp .ne 10, .goto_w 9]),
  (185, [.iconst (-1), .goto 11]),
  (189, [.aload 0, .getfield 1267, .iload 3, .iaload, .iload 2, .iadd, .goto_w 11]),
  (197, [.iastore, .aload 0, .getfield 1268, .iload 3, .iload 2, .iadd, .aload 0, .getfield 1268, .iload 3, .iaload, .iconst (-1), .if_icmp .ne 13, .goto_w 12]),
  (215, [.iconst (-1), .goto 14]),
  (219, [.aload 0, .getfield 1268, .iload 3, .iaload, .iload 2, .iadd, .goto_w 14]),
  (227, [.iastore, .aload 0, .getfield 1269, .iload 3, .iload 2, .iadd, .aload 0, .getfield 1269, .iload 3, .iaload, .iastore, .aload 0, .getfield 1270, .iload 3, .iload 2, .iadd, .aload 0, .getfield 1270, .iload 3, .iaload, .iastore, .aload 0, .getfield 1271, .iload 3, .iload 2, .iadd, .aload 0, .getfield 1271, .iload 3, .iaload, .iastore, .iinc 3 1, .jsr_w 7]),
  (276, [.return_])]
/-- IceSearchModel.beside(I)I -/
def am_b264 : List (Nat × List Instr) := [(0, [.iload 1, .iconst 0, .aload 0, .getfield 1254, .invokestatic 191, .ifCond .ne 2, .goto_w 1]),
  (12, [.iconst (-2), .ireturn]),
  (15, [.aload 0, .aload 0, .iload 1, .invokevirtual 248, .putfield 1259, .aload 0, .getfield 1259, .ifCond .ne 4, .goto_w 3]),
  (31, [.iconst (-1), .ireturn]),
  (33, [.aload 0, .iconst 8, .invokevirtual 263, .iconst 0, .ireturn])]
/-- IceSearchModel.fault()I -/
def am_b265 : List (Nat × List Instr) := [(0, [.aload 0, .getfield 1258, .ireturn])]
/-- IceSearchModel.quarrel(II)I -/
def am_b266 : List (Nat × List Instr) := [(0, [.iload 1, .invokestatic 197, .ifCond .eq 3, .goto_w 1]),
  (7, [.iload 2, .iconst 0, .iconst 1, .invokestatic 191, .ifCond .eq 3, .goto_w 2]),
  (16, [.aload 0, .iload 1, .invokevirtual 267, .goto 4]),
  (24, [.iconst (-1), .goto_w 4]),
  (25, [.istore 3, .iload 3, .iconst (-1), .if_icmp .ne 6, .goto_w 5]),
  (31, [.iconst (-1), .ireturn]),
  (33, [.iconst 0, .istore 4, .ret 7]),
  (36, [.iload 4, .aload 0, .getfield 1260, .iload 3, .iaload, .if_icmp .ge 21, .goto_w 8]),
  (47, [.iload 4, .iconst 1, .iadd, .istore 5, .ret 9]),
  (53, [.iload 5, .aload 0, .getfield 1260, .iload 3, .iaload, .if_icmp .ge 20, .goto_w 10]),
  (64, [.iconst 30, .iload 3, .imul, .iload 4, .iadd, .istore 6, .iconst 30, .iload 3, .imul, .iload 5, .iadd, .istore 7, .aload 0, .getfield 1262, .iload 6, .iaload, .iconst 4, .if_icmp .ne 19, .goto_w 11]),
  (93, [.aload 0, .getfield 1262, .iload 7, .iaload, .iconst 4, .if_icmp .ne 19, .goto_w 12]),
  (104, [.aload 0, .getfield 1263, .iload 6, .iaload, .aload 0, .getfield 1263, .iload 7, .iaload, .if_icmp .ne 19, .goto_w 13]),
  (121, [.aload 0, .getfield 1265, .iload 6, .iaload, .iconst (-1), .if_icmp .ne 19, .goto_w 14]),
  (132, [.aload 0, .getfield 1265, .iload 7, .iaload, .iconst (-1), .if_icmp .ne 19, .goto_w 15]),
  (143, [.iload 2, .ifCond .ne 17, .goto_w 16]),
  (147, [.iload 4, .goto 18]),
  (152, [.iload 5, .goto_w 18]),
  (154, [.ireturn]),
  (155, [.iinc 5 1, .jsr_w 9]),
  (161, [.iinc 4 1, .jsr_w 7]),
  (167, [.iconst (-1), .ireturn])]
/-- IceSearchModel.inForce(I)I -/
def am_b267 : List (Nat × List Instr) := [(0, [.iconst (-1), .istore 2, .iconst 0, .istore 3, .ret 1]),
  (4, [.iload 3, .aload 0, .getfield 1252, .if_icmp .ge 5, .goto_w 2]),
  (12, [.aload 0, .getfield 1261, .iload 3, .iaload, .iload 1, .if_icmp .gt 4, .goto_w 3]),
  (22, [.iload 3, .istore 2, .goto_w 4]),
  (24, [.iinc 3 1, .jsr_w 1]),
  (30, [.iload 2, .ireturn])]
/-- IceSearchModel.would(II)I -/
def am_b268 : List (Nat × List Instr) := [(0, [.iload 1, .invokestatic 197, .ifCond .ne 2, .goto_w 1]),
  (7, [.iconst (-2), .ireturn]),
  (10, [.aload 0, .aload 0, .iload 1, .invokevirtual 267, .iload 1, .invokevirtual 269, .aload 0, .iload 2, .invokevirtual 274, .ireturn])]
/-- IceSearchModel.follows(II)V -/
def am_b269 : List (Nat × List Instr) := [(0, [.aload 0, .iload 2, .invokevirtual 198, .aload 0, .aload 0, .getfield 1201, .putfield 1277, .aload 0, .aload 0, .getfield 1202, .putfield 1239, .aload 0, .aload 0, .getfield 1203, .putfield 1240, .aload 0, .iconst 0, .putfield 1279, .aload 0, .aload 0, .getfield 1208, .aload 0, .getfield 1201, .baload, .ifCond .eq 2, .goto_w 1]),
  (47, [.iconst 0, .goto 3]),
  (51, [.iconst (-1), .goto_w 3]),
  (52, [.putfield 1278, .aload 0, .getfield 1280, .iconst 0, .aload 0, .getfield 1201, .iastore, .iconst 1, .istore 3, .ret 4]),
  (67, [.iload 3, .aload 0, .getfield 1205, .if_icmp .gt 12, .goto_w 5]),
  (75, [.aload 0, .invokevirtual 230, .aload 0, .getfield 1239, .ifCond .le 7, .goto_w 6]),
  (86, [.aload 0, .iload 1, .iload 3, .invokevirtual 270, .goto_w 7]),
  (92, [.aload 0, .getfield 1280, .iload 3, .aload 0, .getfield 1277, .iastore, .aload 0, .getfield 1278, .iconst (-1), .if_icmp .ne 11, .goto_w 8]),
  (110, [.aload 0, .getfield 1208, .aload 0, .getfield 1277, .baload, .ifCond .eq 11, .goto_w 9]),
  (122, [.aload 0, .getfield 1239, .ifCond .le 11, .goto_w 10]),
  (129, [.aload 0, .iload 3, .putfield 1278, .goto_w 11]),
  (134, [.iinc 3 1, .jsr_w 4]),
  (140, [.return_])]
/-- IceSearchModel.does(II)V -/
def am_b270 : List (Nat × List Instr) := [(0, [.iload 2, .iconst 10, .idiv, .istore 3, .aload 0, .getfield 1272, .iconst 0, .iload 3, .iastore, .aload 0, .getfield 1272, .iconst 1, .iload 2, .iastore, .aload 0, .getfield 1272, .iconst 2, .aload 0, .getfield 1240, .iastore, .aload 0, .getfield 1272, .iconst 3, .aload 0, .getfield 1239, .iastore, .iconst 0, .istore 4, .ret 1]),
  (42, [.iload 4, .iconst 4, .if_icmp .ge 3, .goto_w 2]),
  (48, [.aload 0, .getfield 1272, .iconst 4, .iload 4, .iadd, .aload 0, .iconst 2, .iload 4, .imul, .iconst 1, .iadd, .iload 3, .invokevirtual 271, .iastore, .iinc 4 1, .jsr_w 1]),
  (74, [.aload 0, .getfield 1272, .iconst 8, .aload 0, .getfield 1279, .invokestatic 199, .iastore, .aload 0, .getfield 1272, .iconst 9, .iconst 0, .iastore, .aload 0, .getfield 1272, .iconst 10, .iconst 0, .iastore, .aload 0, .getfield 1272, .iconst 11, .iconst 0, .iastore, .aload 0, .iload 1, .iconst 0, .iconst (-1), .invokevirtual 272, .istore 4, .iload 4, .iconst (-1), .if_icmp .ne 5, .goto_w 4]),
  (127, [.return_]),
  (128, [.aload 0, .getfield 1262, .iload 4, .iaload, .iconst 3, .if_icmp .ne 7, .goto_w 6]),
  (139, [.aload 0, .iconst 1, .putfield 1279, .goto_w 7]),
  (144, [.aload 0, .getfield 1262, .iload 4, .iaload, .iconst 1, .if_icmp .gt 9, .goto_w 8]),
  (155, [.aload 0, .getfield 1277, .aload 0, .getfield 1263, .iload 4, .iaload, .invokestatic 214, .goto 10]),
  (172, [.iconst (-1), .goto_w 10]),
  (173, [.istore 5, .iload 5, .iconst (-1), .if_icmp .ne 12, .goto_w 11]),
  (181, [.return_]),
  (182, [.aload 0, .getfield 1262, .iload 4, .iaload, .iconst 1, .if_icmp .ne 15, .goto_w 13]),
  (193, [.aload 0, .getfield 1279, .ifCond .eq 18, .goto_w 14]),
  (200, [.goto 17]),
  (203, [.aload 0, .getfield 1279, .ifCond .ne 18, .goto_w 16]),
  (210, [.aload 0, .iload 5, .iload 3, .invokevirtual 213, .ifCond .eq 18, .goto_w 17]),
  (220, [.aload 0, .iload 5, .putfield 1277, .goto_w 18]),
  (226, [.return_])]
/-- IceSearchModel.openTo(II)I -/
def am_b271 : List (Nat × List Instr) := [(0, [.aload 0, .getfield 1277, .iload 1, .invokestatic 214, .istore 3, .iload 3, .iconst (-1), .if_icmp .eq 3, .goto_w 1]),
  (14, [.aload 0, .iload 3, .iload 2, .invokevirtual 213, .ifCond .eq 3, .goto_w 2]),
  (23, [.iconst 1, .goto 4]),
  (27, [.iconst 0, .goto_w 4]),
  (28, [.invokestatic 199, .ireturn])]
/-- IceSearchModel.firstOf(IZI)I -/
def am_b272 : List (Nat × List Instr) := [(0, [.iconst 30, .iload 1, .imul, .istore 4, .ret 1]),
  (6, [.iload 1, .iconst (-1), .if_icmp .eq 16, .goto_w 2]),
  (11, [.iload 4, .iconst 30, .iload 1, .imul, .aload 0, .getfield 1260, .iload 1, .iaload, .iadd, .if_icmp .ge 16, .goto_w 3]),
  (27, [.iload 2, .ifCond .eq 8, .goto_w 4]),
  (31, [.aload 0, .getfield 1262, .iload 4, .iaload, .iconst 4, .if_icmp .ne 7, .goto_w 5]),
  (42, [.aload 0, .getfield 1263, .iload 4, .iaload, .iload 3, .if_icmp .ne 7, .goto_w 6]),
  (53, [.iconst 1, .goto 11]),
  (57, [.iconst 0, .goto 11]),
  (61, [.aload 0, .getfield 1262, .iload 4, .iaload, .iconst 4, .if_icmp .eq 10, .goto_w 9]),
  (72, [.iconst 1, .goto 11]),
  (76, [.iconst 0, .goto_w 11]),
  (77, [.istore 5, .iload 5, .ifCond .eq 15, .goto_w 12]),
  (84, [.aload 0, .getfield 1265, .iload 4, .iaload, .iconst (-1), .if_icmp .eq 14, .goto_w 13]),
  (95, [.aload 0, .aload 0, .getfield 1265, .iload 4, .iaload, .invokevirtual 273, .ifCond .eq 15, .goto_w 14]),
  (109, [.iload 4, .ireturn]),
  (112, [.iinc 4 1, .jsr_w 1]),
  (118, [.iconst (-1), .ireturn])]
/-- IceSearchModel.asks(I)Z -/
def am_b273 : List (Nat × List Instr) := [(0, [.aload 0, .getfield 1266, .iload 1, .iaload, .tableswitch 17 0 2 #[1, 7, 13]]),
  (32, [.aload 0, .getfield 1267, .iload 1, .iaload, .istore 2, .ret 2]),
  (39, [.iload 2, .iconst (-1), .if_icmp .eq 6, .goto_w 3]),
  (44, [.aload 0, .iload 2, .invokevirtual 273, .ifCond .eq 5, .goto_w 4]),
  (52, [.iconst 1, .ireturn]),
  (54, [.aload 0, .getfield 1268, .iload 2, .iaload, .istore 2, .jsr_w 2]),
  (64, [.iconst 0, .ireturn]),
  (66, [.aload 0, .getfield 1267, .iload 1, .iaload, .istore 2, .ret 8]),
  (73, [.iload 2, .iconst (-1), .if_icmp .eq 12, .goto_w 9]),
  (78, [.aload 0, .iload 2, .invokevirtual 273, .ifCond .ne 11, .goto_w 10]),
  (86, [.iconst 0, .ireturn]),
  (88, [.aload 0, .getfield 1268, .iload 2, .iaload, .istore 2, .jsr_w 8]),
  (98, [.iconst 1, .ireturn]),
  (100, [.aload 0, .aload 0, .getfield 1267, .iload 1, .iaload, .invokevirtual 273, .ifCond .ne 15, .goto_w 14]),
  (113, [.iconst 1, .goto 16]),
  (117, [.iconst 0, .goto_w 16]),
  (118, [.ireturn]),
  (119, [.aload 0, .getfield 1272, .aload 0, .getfield 1269, .iload 1, .iaload, .iaload, .istore 2, .aload 0, .getfield 1270, .iload 1, .iaload, .iconst 60, .if_icmp .ne 21, .goto_w 18]),
  (142, [.iload 2, .aload 0, .getfield 1271, .iload 1, .iaload, .if_icmp .ge 20, .goto_w 19]),
  (152, [.iconst 1, .goto 28]),
  (156, [.iconst 0, .goto 28]),
  (160, [.aload 0, .getfield 1270, .iload 1, .iaload, .iconst 62, .if_icmp .ne 25, .goto_w 22]),
  (171, [.iload 2, .aload 0, .getfield 1271, .iload 1, .iaload, .if_icmp .le 24, .goto_w 23]),
  (181, [.iconst 1, .goto 28]),
  (185, [.iconst 0, .goto 28]),
  (189, [.iload 2, .aload 0, .getfield 1271, .iload 1, .iaload, .if_icmp .ne 27, .goto_w 26]),
  (199, [.iconst 1, .goto 28]),
  (203, [.iconst 0, .goto_w 28]),
  (204, [.ireturn])]
/-- IceSearchModel.outcome(I)I -/
def am_b274 : List (Nat × List Instr) := [(0, [.iload 1, .tableswitch 6 0 4 #[1, 2, 3, 4, 5]]),
  (36, [.aload 0, .getfield 1277, .ireturn]),
  (41, [.aload 0, .getfield 1239, .ireturn]),
  (46, [.aload 0, .getfield 1240, .ireturn]),
  (51, [.aload 0, .getfield 1279, .invokestatic 199, .ireturn]),
  (59, [.aload 0, .getfield 1278, .ireturn]),
  (64, [.iload 1, .iconst 100, .iconst 100, .aload 0, .getfield 1205, .iadd, .invokestatic 191, .ifCond .eq 8, .goto_w 7]),
  (80, [.aload 0, .getfield 1280, .iload 1, .iconst 100, .isub, .iaload, .goto 9]),
  (92, [.iconst (-2), .goto_w 9]),
  (94, [.ireturn])]
/-- IceSearchModel.tried(II)I -/
def am_b275 : List (Nat × List Instr) := [(0, [.aload 0, .getfield 1259, .ifCond .eq 3, .goto_w 1]),
  (7, [.iload 1, .invokestatic 197, .ifCond .eq 3, .goto_w 2]),
  (14, [.iload 2, .iconst 0, .iconst 4, .invokestatic 191, .ifCond .ne 4, .goto_w 3]),
  (23, [.iconst (-2), .ireturn]),
  (26, [.aload 0, .iconst 8, .iload 1, .invokevirtual 269, .aload 0, .iload 2, .invokevirtual 274, .ireturn])]
/-- IceSearchModel.paid(II)I -/
def am_b276 : List (Nat × List Instr) := [(0, [.iload 1, .iconst 0, .iconst 9, .invokestatic 191, .ifCond .eq 2, .goto_w 1]),
  (10, [.iload 2, .invokestatic 197, .ifCond .ne 3, .goto_w 2]),
  (17, [.iconst (-2), .ireturn]),
  (20, [.iconst 0, .istore 3, .iconst 0, .istore 4, .ret 4]),
  (25, [.iload 4, .aload 0, .getfield 1216, .if_icmp .ge 9, .goto_w 5]),
  (34, [.aload 0, .getfield 1226, .iload 4, .iaload, .iload 1, .if_icmp .ne 8, .goto_w 6]),
  (45, [.aload 0, .iload 4, .iload 2, .invokevirtual 209, .ifCond .eq 8, .goto_w 7]),
  (55, [.iload 3, .aload 0, .iload 4, .iload 2, .invokevirtual 277, .iadd, .istore 3, .goto_w 8]),
  (65, [.iinc 4 1, .jsr_w 4]),
  (71, [.iload 3, .ireturn])]
/-- IceSearchModel.payOf(II)I -/
def am_b277 : List (Nat × List Instr) := [(0, [.aload 0, .getfield 1272, .iconst 0, .aload 0, .getfield 1222, .iload 1, .iaload, .iconst 10, .idiv, .iastore, .aload 0, .getfield 1272, .iconst 1, .aload 0, .getfield 1222, .iload 1, .iaload, .iastore, .iconst 2, .istore 3, .ret 1]),
  (29, [.iload 3, .iconst 9, .if_icmp .ge 3, .goto_w 2]),
  (35, [.aload 0, .getfield 1272, .iload 3, .iconst 0, .iastore, .iinc 3 1, .jsr_w 1]),
  (48, [.aload 0, .getfield 1272, .iconst 9, .aload 0, .getfield 1224, .iload 1, .iaload, .iastore, .aload 0, .getfield 1272, .iconst 10, .aload 0, .iload 1, .invokevirtual 206, .iastore, .aload 0, .getfield 1272, .iconst 11, .iconst 1, .iastore, .iconst 0, .istore 3, .ret 4]),
  (83, [.iload 3, .iload 1, .if_icmp .ge 9, .goto_w 5]),
  (88, [.aload 0, .getfield 1227, .iload 3, .iaload, .iload 2, .if_icmp .gt 8, .goto_w 6]),
  (98, [.aload 0, .getfield 1221, .iload 3, .iaload, .aload 0, .getfield 1221, .iload 1, .iaload, .if_icmp .ne 8, .goto_w 7]),
  (113, [.aload 0, .getfield 1272, .iconst 11, .iconst 0, .iastore, .goto_w 8]),
  (121, [.iinc 3 1, .jsr_w 4]),
  (127, [.aload 0, .aload 0, .iload 2, .invokevirtual 267, .iconst 1, .aload 0, .getfield 1220, .iload 1, .iaload, .invokevirtual 272, .istore 3, .iload 3, .iconst (-1), .if_icmp .ne 11, .goto_w 10]),
  (149, [.iconst 0, .goto 12]),
  (153, [.aload 0, .getfield 1264, .iload 3, .iaload, .goto_w 12]),
  (159, [.ireturn])]
/-- IceSearchModel.count(I)I -/
def am_b278 : List (Nat × List Instr) := [(0, [.iconst 0, .istore 2, .iload 1, .tableswitch 28 0 14 #[1, 2, 3, 7, 8, 9, 10, 11, 15, 19, 23, 24, 25, 26, 27]]),
  (76, [.aload 0, .getfield 1200, .ireturn]),
  (81, [.aload 0, .getfield 1216, .ireturn]),
  (86, [.iconst 0, .istore 3, .ret 4]),
  (88, [.iload 3, .aload 0, .getfield 1216, .if_icmp .ge 6, .goto_w 5]),
  (96, [.iload 2, .aload 0, .iload 3, .aload 0, .getfield 1200, .invokevirtual 204, .invokestatic 199, .iadd, .istore 2, .iinc 3 1, .jsr_w 4]),
  (117, [.iload 2, .ireturn]),
  (119, [.aload 0, .getfield 1209, .ireturn]),
  (124, [.aload 0, .getfield 1215, .ireturn]),
  (129, [.aload 0, .getfield 1243, .ireturn]),
  (134, [.aload 0, .getfield 1252, .ireturn]),
  (139, [.aload 0, .getfield 1252, .ifCond .ne 13, .goto_w 12]),
  (146, [.iconst 0, .goto 14]),
  (150, [.aload 0, .getfield 1260, .aload 0, .getfield 1252, .iconst 1, .isub, .iaload, .goto_w 14]),
  (161, [.ireturn]),
  (162, [.iconst 0, .istore 3, .ret 16]),
  (164, [.iload 3, .iconst 256, .if_icmp .ge 18, .goto_w 17]),
  (171, [.iload 2, .aload 0, .getfield 1207, .iload 3, .baload, .invokestatic 199, .iadd, .istore 2, .iinc 3 1, .jsr_w 16]),
  (189, [.iload 2, .ireturn]),
  (191, [.iconst 0, .istore 3, .ret 20]),
  (193, [.iload 3, .iconst 256, .if_icmp .ge 22, .goto_w 21]),
  (200, [.iload 2, .aload 0, .getfield 1208, .iload 3, .baload, .invokestatic 199, .iadd, .istore 2, .iinc 3 1, .jsr_w 20]),
  (218, [.iload 2, .ireturn]),
  (220, [.aload 0, .getfield 1237, .ireturn]),
  (225, [.aload 0, .getfield 1205, .ireturn]),
  (230, [.aload 0, .getfield 1206, .ireturn]),
  (235, [.aload 0, .getfield 1254, .ireturn]),
  (240, [.aload 0, .getfield 1259, .invokestatic 199, .ireturn]),
  (248, [.iconst (-1), .ireturn])]
/-- IceSearchLaw.law([I)Z -/
def am_b279 : List (Nat × List Instr) := [(0, [.new 0, .dup, .invokespecial 0, .astore 1, .new 12, .dup, .invokespecial 187, .astore 2, .iconst 0, .istore 3, .ret 1]),
  (18, [.iload 3, .aload 0, .arraylength, .iconst 8, .isub, .if_icmp .gt 100, .goto_w 2]),
  (27, [.aload 0, .iload 3, .iaload, .iconst 63, .iand, .tableswitch 99 0 35 #[3, 5, 13, 15, 17, 25, 27, 29, 31, 39, 41, 43, 45, 47, 49, 51, 53, 55, 57, 59, 61, 63, 65, 67, 69, 71, 73, 75, 77, 79, 81, 89, 91, 93, 95, 97]]),
  (192, [.aload 1, .aload 0, .iload 3, .iconst 1, .iadd, .iaload, .invokevirtual 12, .aload 2, .aload 0, .iload 3, .iconst 1, .iadd, .iaload, .invokevirtual 188, .if_icmp .eq 99, .goto_w 4]),
  (213, [.iconst 0, .ireturn]),
  (215, [.aload 1, .aload 0, .iload 3, .iconst 1, .iadd, .iaload, .aload 0, .iload 3, .iconst 2, .iadd, .iaload, .ifCond .eq 7, .goto_w 6]),
  (229, [.iconst 1, .goto 8]),
  (233, [.iconst 0, .goto_w 8]),
  (234, [.invokevirtual 13, .aload 2, .aload 0, .iload 3, .iconst 1, .iadd, .iaload, .aload 0, .iload 3, .iconst 2, .iadd, .iaload, .ifCond .eq 10, .goto_w 9]),
  (251, [.iconst 1, .goto 11]),
  (255, [.iconst 0, .goto_w 11]),
  (256, [.invokevirtual 189, .if_icmp .eq 99, .goto_w 12]),
  (262, [.iconst 0, .ireturn]),
  (264, [.aload 1, .aload 0, .iload 3, .iconst 1, .iadd, .iaload, .aload 0, .iload 3, .iconst 2, .iadd, .iaload, .aload 0, .iload 3, .iconst 3, .iadd, .iaload, .aload 0, .iload 3, .iconst 4, .iadd, .iaload, .invokevirtual 16, .aload 2, .aload 0, .iload 3, .iconst 1, .iadd, .iaload, .aload 0, .iload 3, .iconst 2, .iadd, .iaload, .aload 0, .iload 3, .iconst 3, .iadd, .iaload, .aload 0, .iload 3, .iconst 4, .iadd, .iaload, .invokevirtual 192, .if_icmp .eq 99, .goto_w 14]),
  (315, [.iconst 0, .ireturn]),
  (317, [.aload 1, .aload 0, .iload 3, .iconst 1, .iadd, .iaload, .aload 0, .iload 3, .iconst 2, .iadd, .iaload, .invokevirtual 19, .aload 2, .aload 0, .iload 3, .iconst 1, .iadd, .iaload, .aload 0, .iload 3, .iconst 2, .iadd, .iaload, .invokevirtual 193, .if_icmp .eq 99, .goto_w 16]),
  (348, [.iconst 0, .ireturn]),
  (350, [.aload 1, .aload 0, .iload 3, .iconst 1, .iadd, .iaload, .aload 0, .iload 3, .iconst 2, .iadd, .iaload, .aload 0, .iload 3, .iconst 3, .iadd, .iaload, .ifCond .eq 19, .goto_w 18]),
  (369, [.iconst 1, .goto 20]),
  (373, [.iconst 0, .goto_w 20]),
  (374, [.invokevirtual 21, .aload 2, .aload 0, .iload 3, .iconst 1, .iadd, .iaload, .aload 0, .iload 3, .iconst 2, .iadd, .iaload, .aload 0, .iload 3, .iconst 3, .iadd, .iaload, .ifCond .eq 22, .goto_w 21]),
  (396, [.iconst 1, .goto 23]),
  (400, [.iconst 0, .goto_w 23]),
  (401, [.invokevirtual 195, .if_icmp .eq 99, .goto_w 24]),
  (407, [.iconst 0, .ireturn]),
  (409, [.aload 1, .aload 0, .iload 3, .iconst 1, .iadd, .iaload, .aload 0, .iload 3, .iconst 2, .iadd, .iaload, .aload 0, .iload 3, .iconst 3, .iadd, .iaload, .invokevirtual 24, .aload 2, .aload 0, .iload 3, .iconst 1, .iadd, .iaload, .aload 0, .iload 3, .iconst 2, .iadd, .iaload, .aload 0, .iload 3, .iconst 3, .iadd, .iaload, .invokevirtual 196, .if_icmp .eq 99, .goto_w 26]),
  (450, [.iconst 0, .ireturn]),
  (452, [.aload 1, .aload 0, .iload 3, .iconst 1, .iadd, .iaload, .aload 0, .iload 3, .iconst 2, .iadd, .iaload, .invokevirtual 27, .aload 2, .aload 0, .iload 3, .iconst 1, .iadd, .iaload, .aload 0, .iload 3, .iconst 2, .iadd, .iaload, .invokevirtual 200, .if_icmp .eq 99, .goto_w 28]),
  (483, [.iconst 0, .ireturn]),
  (485, [.aload 1, .aload 0, .iload 3, .iconst 1, .iadd, .iaload, .aload 0, .iload 3, .iconst 2, .iadd, .iaload, .aload 0, .iload 3, .iconst 3, .iadd, .iaload, .aload 0, .iload 3, .iconst 4, .iadd, .iaload, .aload 0, .iload 3, .iconst 5, .iadd, .iaload, .aload 0, .iload 3, .iconst 6, .iadd, .iaload, .aload 0, .iload 3, .iconst 7, .iadd, .iaload, .invokevirtual 30, .aload 2, .aload 0, .iload 3, .iconst 1, .iadd, .iaload, .aload 0, .iload 3, .iconst 2, .iadd, .iaload, .aload 0, .iload 3, .iconst 3, .iadd, .iaload, .aload 0, .iload 3, .iconst 4, .iadd, .iaload, .aload 0, .iload 3, .iconst 5, .iadd, .iaload, .aload 0, .iload 3, .iconst 6, .iadd, .iaload, .aload 0, .iload 3, .iconst 7, .iadd, .iaload, .invokevirtual 201, .if_icmp .eq 99, .goto_w 30]),
  (570, [.iconst 0, .ireturn]),
  (572, [.aload 1, .aload 0, .iload 3, .iconst 1, .iadd, .iaload, .aload 0, .iload 3, .iconst 2, .iadd, .iaload, .ifCond .eq 33, .goto_w 32]),
  (586, [.iconst 1, .goto 34]),
  (590, [.iconst 0, .goto_w 34]),
  (591, [.invokevirtual 37, .aload 2, .aload 0, .iload 3, .iconst 1, .iadd, .iaload, .aload 0, .iload 3, .iconst 2, .iadd, .iaload, .ifCond .eq 36, .goto_w 35]),
  (608, [.iconst 1, .goto 37]),
  (612, [.iconst 0, .goto_w 37]),
  (613, [.invokevirtual 203, .if_icmp .eq 99, .goto_w 38]),
  (619, [.iconst 0, .ireturn]),
  (621, [.aload 1, .aload 0, .iload 3, .iconst 1, .iadd, .iaload, .aload 0, .iload 3, .iconst 2, .iadd, .iaload, .invokevirtual 41, .aload 2, .aload 0, .iload 3, .iconst 1, .iadd, .iaload, .aload 0, .iload 3, .iconst 2, .iadd, .iaload, .invokevirtual 205, .if_icmp .eq 99, .goto_w 40]),
  (652, [.iconst 0, .ireturn]),
  (654, [.aload 1, .aload 0, .iload 3, .iconst 1, .iadd, .iaload, .aload 0, .iload 3, .iconst 2, .iadd, .iaload, .invokevirtual 43, .aload 2, .aload 0, .iload 3, .iconst 1, .iadd, .iaload, .aload 0, .iload 3, .iconst 2, .iadd, .iaload, .invokevirtual 207, .if_icmp .eq 99, .goto_w 42]),
  (685, [.iconst 0, .ireturn]),
  (687, [.aload 1, .aload 0, .iload 3, .iconst 1, .iadd, .iaload, .invokevirtual 49, .aload 2, .aload 0, .iload 3, .iconst 1, .iadd, .iaload, .invokevirtual 210, .if_icmp .eq 99, .goto_w 44]),
  (708, [.iconst 0, .ireturn]),
  (710, [.aload 1, .aload 0, .iload 3, .iconst 1, .iadd, .iaload, .aload 0, .iload 3, .iconst 2, .iadd, .iaload, .invokevirtual 70, .aload 2, .aload 0, .iload 3, .iconst 1, .iadd, .iaload, .aload 0, .iload 3, .iconst 2, .iadd, .iaload, .invokevirtual 221, .if_icmp .eq 99, .goto_w 46]),
  (741, [.iconst 0, .ireturn]),
  (743, [.aload 1, .aload 0, .iload 3, .iconst 1, .iadd, .iaload, .aload 0, .iload 3, .iconst 2, .iadd, .iaload, .aload 0, .iload 3, .iconst 3, .iadd, .iaload, .invokevirtual 73, .aload 2, .aload 0, .iload 3, .iconst 1, .iadd, .iaload, .aload 0, .iload 3, .iconst 2, .iadd, .iaload, .aload 0, .iload 3, .iconst 3, .iadd, .iaload, .invokevirtual 223, .if_icmp .eq 99, .goto_w 48]),
  (784, [.iconst 0, .ireturn]),
  (786, [.aload 1, .aload 0, .iload 3, .iconst 1, .iadd, .iaload, .aload 0, .iload 3, .iconst 2, .iadd, .iaload, .invokevirtual 75, .aload 2, .aload 0, .iload 3, .iconst 1, .iadd, .iaload, .aload 0, .iload 3, .iconst 2, .iadd, .iaload, .invokevirtual 224, .if_icmp .eq 99, .goto_w 50]),
  (817, [.iconst 0, .ireturn]),
  (819, [.aload 1, .aload 0, .iload 3, .iconst 1, .iadd, .iaload, .invokevirtual 76, .aload 2, .aload 0, .iload 3, .iconst 1, .iadd, .iaload, .invokevirtual 225, .if_icmp .eq 99, .goto_w 52]),
  (840, [.iconst 0, .ireturn]),
  (842, [.aload 1, .aload 0, .iload 3, .iconst 1, .iadd, .iaload, .invokevirtual 77, .aload 2, .aload 0, .iload 3, .iconst 1, .iadd, .iaload, .invokevirtual 226, .if_icmp .eq 99, .goto_w 54]),
  (863, [.iconst 0, .ireturn]),
  (865, [.aload 1, .invokevirtual 79, .aload 2, .invokevirtual 227, .if_icmp .eq 99, .goto_w 56]),
  (876, [.iconst 0, .ireturn]),
  (878, [.aload 1, .aload 0, .iload 3, .iconst 1, .iadd, .iaload, .invokevirtual 81, .aload 2, .aload 0, .iload 3, .iconst 1, .iadd, .iaload, .invokevirtual 228, .if_icmp .eq 99, .goto_w 58]),
  (899, [.iconst 0, .ireturn]),
  (901, [.aload 1, .aload 0, .iload 3, .iconst 1, .iadd, .iaload, .invokevirtual 88, .aload 2, .aload 0, .iload 3, .iconst 1, .iadd, .iaload, .invokevirtual 229, .if_icmp .eq 99, .goto_w 60]),
  (922, [.iconst 0, .ireturn]),
  (924, [.aload 1, .aload 0, .iload 3, .iconst 1, .iadd, .iaload, .aload 0, .iload 3, .iconst 2, .iadd, .iaload, .aload 0, .iload 3, .iconst 3, .iadd, .iaload, .invokevirtual 91, .aload 2, .aload 0, .iload 3, .iconst 1, .iadd, .iaload, .aload 0, .iload 3, .iconst 2, .iadd, .iaload, .aload 0, .iload 3, .iconst 3, .iadd, .iaload, .invokevirtual 231, .if_icmp .eq 99, .goto_w 62]),
  (965, [.iconst 0, .ireturn]),
  (967, [.aload 1, .aload 0, .iload 3, .iconst 1, .iadd, .iaload, .aload 0, .iload 3, .iconst 2, .iadd, .iaload, .invokevirtual 98, .aload 2, .aload 0, .iload 3, .iconst 1, .iadd, .iaload, .aload 0, .iload 3, .iconst 2, .iadd, .iaload, .invokevirtual 235, .if_icmp .eq 99, .goto_w 64]),
  (998, [.iconst 0, .ireturn]),
  (1000, [.aload 1, .aload 0, .iload 3, .iconst 1, .iadd, .iaload, .aload 0, .iload 3, .iconst 2, .iadd, .iaload, .aload 0, .iload 3, .iconst 3, .iadd, .iaload, .aload 0, .iload 3, .iconst 4, .iadd, .iaload, .invokevirtual 100, .aload 2, .aload 0, .iload 3, .iconst 1, .iadd, .iaload, .aload 0, .iload 3, .iconst 2, .iadd, .iaload, .aload 0, .iload 3, .iconst 3, .iadd, .iaload, .aload 0, .iload 3, .iconst 4, .iadd, .iaload, .invokevirtual 236, .if_icmp .eq 99, .goto_w 66]),
  (1051, [.iconst 0, .ireturn]),
  (1053, [.aload 1, .aload 0, .iload 3, .iconst 1, .iadd, .iaload, .aload 0, .iload 3, .iconst 2, .iadd, .iaload, .aload 0, .iload 3, .iconst 3, .iadd, .iaload, .invokevirtual 101, .aload 2, .aload 0, .iload 3, .iconst 1, .iadd, .iaload, .aload 0, .iload 3, .iconst 2, .iadd, .iaload, .aload 0, .iload 3, .iconst 3, .iadd, .iaload, .invokevirtual 237, .if_icmp .eq 99, .goto_w 68]),
  (1094, [.iconst 0, .ireturn]),
  (1096, [.aload 1, .aload 0, .iload 3, .iconst 1, .iadd, .iaload, .aload 0, .iload 3, .iconst 2, .iadd, .iaload, .invokevirtual 103, .aload 2, .aload 0, .iload 3, .iconst 1, .iadd, .iaload, .aload 0, .iload 3, .iconst 2, .iadd, .iaload, .invokevirtual 238, .if_icmp .eq 99, .goto_w 70]),
  (1127, [.iconst 0, .ireturn]),
  (1129, [.aload 1, .aload 0, .iload 3, .iconst 1, .iadd, .iaload, .invokevirtual 108, .aload 2, .aload 0, .iload 3, .iconst 1, .iadd, .iaload, .invokevirtual 240, .if_icmp .eq 99, .goto_w 72]),
  (1150, [.iconst 0, .ireturn]),
  (1152, [.aload 1, .aload 0, .iload 3, .iconst 1, .iadd, .iaload, .aload 0, .iload 3, .iconst 2, .iadd, .iaload, .aload 0, .iload 3, .iconst 3, .iadd, .iaload, .aload 0, .iload 3, .iconst 4, .iadd, .iaload, .aload 0, .iload 3, .iconst 5, .iadd, .iaload, .invokevirtual 117, .aload 2, .aload 0, .iload 3, .iconst 1, .iadd, .iaload, .aload 0, .iload 3, .iconst 2, .iadd, .iaload, .aload 0, .iload 3, .iconst 3, .iadd, .iaload, .aload 0, .iload 3, .iconst 4, .iadd, .iaload, .aload 0, .iload 3, .iconst 5, .iadd, .iaload, .invokevirtual 245, .if_icmp .eq 99, .goto_w 74]),
  (1213, [.iconst 0, .ireturn]),
  (1215, [.aload 1, .aload 0, .iload 3, .iconst 1, .iadd, .iaload, .invokevirtual 120, .aload 2, .aload 0, .iload 3, .iconst 1, .iadd, .iaload, .invokevirtual 247, .if_icmp .eq 99, .goto_w 76]),
  (1236, [.iconst 0, .ireturn]),
  (1238, [.aload 1, .aload 0, .iload 3, .iconst 1, .iadd, .iaload, .invokevirtual 156, .aload 2, .aload 0, .iload 3, .iconst 1, .iadd, .iaload, .invokevirtual 264, .if_icmp .eq 99, .goto_w 78]),
  (1259, [.iconst 0, .ireturn]),
  (1261, [.aload 1, .invokevirtual 157, .aload 2, .invokevirtual 265, .if_icmp .eq 99, .goto_w 80]),
  (1272, [.iconst 0, .ireturn]),
  (1274, [.aload 1, .aload 0, .iload 3, .iconst 1, .iadd, .iaload, .aload 0, .iload 3, .iconst 2, .iadd, .iaload, .ifCond .eq 83, .goto_w 82]),
  (1288, [.iconst 1, .goto 84]),
  (1292, [.iconst 0, .goto_w 84]),
  (1293, [.invokevirtual 158, .aload 2, .aload 0, .iload 3, .iconst 1, .iadd, .iaload, .aload 0, .iload 3, .iconst 2, .iadd, .iaload, .ifCond .eq 86, .goto_w 85]),
  (1310, [.iconst 1, .goto 87]),
  (1314, [.iconst 0, .goto_w 87]),
  (1315, [.invokevirtual 194, .if_icmp .eq 99, .goto_w 88]),
  (1321, [.iconst 0, .ireturn]),
  (1323, [.aload 1, .aload 0, .iload 3, .iconst 1, .iadd, .iaload, .aload 0, .iload 3, .iconst 2, .iadd, .iaload, .invokevirtual 160, .aload 2, .aload 0, .iload 3, .iconst 1, .iadd, .iaload, .aload 0, .iload 3, .iconst 2, .iadd, .iaload, .invokevirtual 268, .if_icmp .eq 99, .goto_w 90]),
  (1354, [.iconst 0, .ireturn]),
  (1356, [.aload 1, .aload 0, .iload 3, .iconst 1, .iadd, .iaload, .aload 0, .iload 3, .iconst 2, .iadd, .iaload, .invokevirtual 177, .aload 2, .aload 0, .iload 3, .iconst 1, .iadd, .iaload, .aload 0, .iload 3, .iconst 2, .iadd, .iaload, .invokevirtual 275, .if_icmp .eq 99, .goto_w 92]),
  (1387, [.iconst 0, .ireturn]),
  (1389, [.aload 1, .aload 0, .iload 3, .iconst 1, .iadd, .iaload, .aload 0, .iload 3, .iconst 2, .iadd, .iaload, .invokevirtual 178, .aload 2, .aload 0, .iload 3, .iconst 1, .iadd, .iaload, .aload 0, .iload 3, .iconst 2, .iadd, .iaload, .invokevirtual 266, .if_icmp .eq 99, .goto_w 94]),
  (1420, [.iconst 0, .ireturn]),
  (1422, [.aload 1, .aload 0, .iload 3, .iconst 1, .iadd, .iaload, .aload 0, .iload 3, .iconst 2, .iadd, .iaload, .invokevirtual 181, .aload 2, .aload 0, .iload 3, .iconst 1, .iadd, .iaload, .aload 0, .iload 3, .iconst 2, .iadd, .iaload, .invokevirtual 276, .if_icmp .eq 99, .goto_w 96]),
  (1453, [.iconst 0, .ireturn]),
  (1455, [.aload 1, .aload 0, .iload 3, .iconst 1, .iadd, .iaload, .invokevirtual 185, .aload 2, .aload 0, .iload 3, .iconst 1, .iadd, .iaload, .invokevirtual 278, .if_icmp .eq 99, .goto_w 98]),
  (1476, [.iconst 0, .ireturn]),
  (1478, [.iinc 3 8, .jsr_w 1]),
  (1484, [.iconst 1, .ireturn])]
def am_BT0 : List (List (Nat × List Instr)) := [am_b0, am_b1, am_b2, am_b3, am_b4, am_b5, am_b6, am_b7, am_b8, am_b9, am_b10, am_b11, am_b12, am_b13]
def am_BT1 : List (List (Nat × List Instr)) := [am_b14, am_b15, am_b16, am_b17, am_b18, am_b19, am_b20, am_b21, am_b22, am_b23, am_b24, am_b25, am_b26, am_b27]
def am_BT2 : List (List (Nat × List Instr)) := [am_b28, am_b29, am_b30, am_b31, am_b32, am_b33, am_b34, am_b35, am_b36, am_b37, am_b38, am_b39, am_b40, am_b41]
def am_BT3 : List (List (Nat × List Instr)) := [am_b42, am_b43, am_b44, am_b45, am_b46, am_b47, am_b48, am_b49, am_b50, am_b51, am_b52, am_b53, am_b54, am_b55]
def am_BT4 : List (List (Nat × List Instr)) := [am_b56, am_b57, am_b58, am_b59, am_b60, am_b61, am_b62, am_b63, am_b64, am_b65, am_b66, am_b67, am_b68, am_b69]
def am_BT5 : List (List (Nat × List Instr)) := [am_b70, am_b71, am_b72, am_b73, am_b74, am_b75, am_b76, am_b77, am_b78, am_b79, am_b80, am_b81, am_b82, am_b83]
def am_BT6 : List (List (Nat × List Instr)) := [am_b84, am_b85, am_b86, am_b87, am_b88, am_b89, am_b90, am_b91, am_b92, am_b93, am_b94, am_b95, am_b96, am_b97]
def am_BT7 : List (List (Nat × List Instr)) := [am_b98, am_b99, am_b100, am_b101, am_b102, am_b103, am_b104, am_b105, am_b106, am_b107, am_b108, am_b109, am_b110, am_b111]
def am_BT8 : List (List (Nat × List Instr)) := [am_b112, am_b113, am_b114, am_b115, am_b116, am_b117, am_b118, am_b119, am_b120, am_b121, am_b122, am_b123, am_b124, am_b125]
def am_BT9 : List (List (Nat × List Instr)) := [am_b126, am_b127, am_b128, am_b129, am_b130, am_b131, am_b132, am_b133, am_b134, am_b135, am_b136, am_b137, am_b138, am_b139]
def am_BT10 : List (List (Nat × List Instr)) := [am_b140, am_b141, am_b142, am_b143, am_b144, am_b145, am_b146, am_b147, am_b148, am_b149, am_b150, am_b151, am_b152, am_b153]
def am_BT11 : List (List (Nat × List Instr)) := [am_b154, am_b155, am_b156, am_b157, am_b158, am_b159, am_b160, am_b161, am_b162, am_b163, am_b164, am_b165, am_b166, am_b167]
def am_BT12 : List (List (Nat × List Instr)) := [am_b168, am_b169, am_b170, am_b171, am_b172, am_b173, am_b174, am_b175, am_b176, am_b177, am_b178, am_b179, am_b180, am_b181]
def am_BT13 : List (List (Nat × List Instr)) := [am_b182, am_b183, am_b184, am_b185, am_b186, am_b187, am_b188, am_b189, am_b190, am_b191, am_b192, am_b193, am_b194, am_b195]
def am_BT14 : List (List (Nat × List Instr)) := [am_b196, am_b197, am_b198, am_b199, am_b200, am_b201, am_b202, am_b203, am_b204, am_b205, am_b206, am_b207, am_b208, am_b209]
def am_BT15 : List (List (Nat × List Instr)) := [am_b210, am_b211, am_b212, am_b213, am_b214, am_b215, am_b216, am_b217, am_b218, am_b219, am_b220, am_b221, am_b222, am_b223]
def am_BT16 : List (List (Nat × List Instr)) := [am_b224, am_b225, am_b226, am_b227, am_b228, am_b229, am_b230, am_b231, am_b232, am_b233, am_b234, am_b235, am_b236, am_b237]
def am_BT17 : List (List (Nat × List Instr)) := [am_b238, am_b239, am_b240, am_b241, am_b242, am_b243, am_b244, am_b245, am_b246, am_b247, am_b248, am_b249, am_b250, am_b251]
def am_BT18 : List (List (Nat × List Instr)) := [am_b252, am_b253, am_b254, am_b255, am_b256, am_b257, am_b258, am_b259, am_b260, am_b261, am_b262, am_b263, am_b264, am_b265]
def am_BT19 : List (List (Nat × List Instr)) := [am_b266, am_b267, am_b268, am_b269, am_b270, am_b271, am_b272, am_b273, am_b274, am_b275, am_b276, am_b277, am_b278, am_b279]
def am_BTT : List (List (List (Nat × List Instr))) := [am_BT0, am_BT1, am_BT2, am_BT3, am_BT4, am_BT5, am_BT6, am_BT7, am_BT8, am_BT9, am_BT10, am_BT11, am_BT12, am_BT13, am_BT14, am_BT15, am_BT16, am_BT17, am_BT18, am_BT19]
def am_bt (z : Nat) : List (Nat × List Instr) := (am_BTT.getD (z / 14) []).getD (z % 14) []
def am_blk (z b : Nat) : List Instr := ((am_bt z).getD b (0, [])).2
def am_bpc (z b : Nat) : Nat := ((am_bt z).getD b (0, [])).1
def am_FL : List (Nat × Nat × Nat × Bool × Nat) := [(0, 10, 0, false, 492), (0, 19, 1, false, 493), (0, 26, 2, false, 494), (0, 35, 3, false, 495), (0, 42, 4, false, 496), (0, 49, 5, false, 497), (0, 58, 6, false, 498), (0, 67, 7, false, 499), (0, 74, 8, false, 500), (0, 83, 9, false, 501), (0, 92, 10, false, 502), (0, 96, 11, false, 503), (0, 100, 12, false, 504), (0, 104, 17, false, 509), (0, 108, 15, false, 507), (0, 115, 200, true, 173), (0, 129, 201, true, 178), (0, 132, 202, true, 181), (0, 135, 203, true, 183), (0, 141, 16, false, 508), (0, 176, 308, true, 209), (0, 204, 311, true, 215), (0, 207, 312, true, 218), (0, 248, 805, true, 391), (0, 268, 603, true, 309), (0, 275, 711, true, 349), (0, 287, 904, true, 425), (0, 293, 14, false, 506), (0, 300, 13, false, 505), (0, 303, 1007, true, 452), (0, 342, 107, true, 136), (0, 345, 309, true, 211), (0, 348, 712, true, 351), (0, 349, 1101, true, 479), (0, 352, 108, true, 138), (0, 355, 109, true, 140), (0, 358, 405, true, 259), (0, 384, 1100, true, 477), (3, 11, 300, false, 199), (3, 15, 301, false, 200), (3, 18, 302, false, 201), (3, 21, 303, false, 202), (3, 24, 304, false, 203), (3, 27, 305, false, 204), (3, 31, 306, false, 205), (3, 34, 307, false, 206), (3, 37, 308, false, 207), (3, 41, 309, false, 210), (3, 55, 310, false, 212), (3, 71, 311, false, 216), (3, 74, 312, false, 219), (7, 11, 701, false, 338), (7, 15, 702, false, 339), (7, 18, 703, false, 340), (7, 21, 704, false, 341), (7, 24, 705, false, 342), (7, 27, 706, false, 343), (7, 30, 707, false, 344), (7, 33, 708, false, 345), (7, 36, 709, false, 346), (7, 39, 710, false, 347), (7, 42, 700, false, 337), (7, 46, 712, false, 350), (7, 84, 711, false, 348), (6, 9, 603, false, 308), (6, 15, 604, false, 310), (6, 18, 605, false, 311), (6, 21, 606, false, 312), (6, 24, 607, false, 313), (6, 27, 600, false, 305), (6, 31, 601, false, 306), (6, 35, 602, false, 307), (6, 59, 200, true, 174), (6, 69, 308, true, 208), (2, 9, 200, false, 170), (2, 15, 201, false, 176), (2, 18, 202, false, 179), (2, 21, 203, false, 182), (10, 13, 1001, false, 445), (10, 19, 1002, false, 446), (10, 22, 1007, false, 451), (10, 26, 1000, false, 444), (10, 34, 1003, false, 447), (10, 41, 1004, false, 448), (10, 44, 1005, false, 449), (10, 47, 1006, false, 450), (4, 11, 403, false, 256), (4, 15, 404, false, 257), (4, 18, 400, false, 253), (4, 22, 401, false, 254), (4, 26, 402, false, 255), (4, 30, 405, false, 258), (4, 38, 311, true, 214), (4, 51, 200, true, 175), (11, 9, 1100, false, 476), (11, 15, 1101, false, 478), (11, 18, 1102, false, 480), (11, 22, 1103, false, 481), (1, 9, 100, false, 128), (1, 15, 101, false, 129), (1, 18, 102, false, 130), (1, 22, 103, false, 131), (1, 25, 104, false, 132), (1, 28, 105, false, 133), (1, 31, 106, false, 134), (1, 38, 108, false, 137), (1, 42, 109, false, 139), (1, 45, 107, false, 135), (9, 11, 900, false, 420), (9, 15, 901, false, 421), (9, 19, 902, false, 422), (9, 22, 904, false, 424), (9, 35, 903, false, 423), (8, 9, 802, false, 387), (8, 15, 803, false, 388), (8, 18, 800, false, 385), (8, 22, 801, false, 386), (8, 26, 200, true, 171), (8, 32, 804, false, 389), (8, 33, 201, true, 177), (8, 36, 805, false, 390), (8, 37, 202, true, 180), (8, 40, 806, false, 392), (8, 41, 807, false, 393), (8, 45, 808, false, 394), (5, 9, 503, false, 282), (5, 15, 504, false, 283), (5, 18, 505, false, 284), (5, 22, 500, false, 279), (5, 26, 501, false, 280), (5, 30, 502, false, 281), (5, 40, 200, true, 172), (5, 60, 312, true, 217), (5, 69, 311, true, 213), (12, 7, 1202, false, 1372), (12, 13, 1204, false, 1374), (12, 16, 1206, false, 1376), (12, 19, 1207, false, 1377), (12, 23, 1208, false, 1378), (12, 26, 1210, false, 1380), (12, 30, 1211, false, 1381), (12, 33, 1212, false, 1382), (12, 36, 1213, false, 1383), (12, 39, 1214, false, 1384), (12, 42, 1218, false, 1388), (12, 45, 1219, false, 1389), (12, 48, 1220, false, 1390), (12, 51, 1221, false, 1391), (12, 54, 1222, false, 1392), (12, 57, 1223, false, 1393), (12, 60, 1224, false, 1394), (12, 63, 1225, false, 1395), (12, 66, 1226, false, 1396), (12, 69, 1227, false, 1397), (12, 72, 1228, false, 1398), (12, 75, 1229, false, 1399), (12, 78, 1230, false, 1400), (12, 81, 1233, false, 1403), (12, 84, 1234, false, 1404), (12, 87, 1235, false, 1405), (12, 91, 1236, false, 1406), (12, 94, 1238, false, 1408), (12, 97, 1241, false, 1411), (12, 100, 1242, false, 1412), (12, 103, 1244, false, 1414), (12, 106, 1245, false, 1415), (12, 109, 1246, false, 1416), (12, 112, 1247, false, 1417), (12, 115, 1248, false, 1418), (12, 118, 1249, false, 1419), (12, 121, 1250, false, 1420), (12, 124, 1258, false, 1428), (12, 127, 1260, false, 1430), (12, 130, 1261, false, 1431), (12, 133, 1262, false, 1432), (12, 136, 1263, false, 1433), (12, 139, 1264, false, 1434), (12, 142, 1265, false, 1435), (12, 145, 1266, false, 1436), (12, 148, 1267, false, 1437), (12, 151, 1268, false, 1438), (12, 154, 1269, false, 1439), (12, 157, 1270, false, 1440), (12, 160, 1271, false, 1441), (12, 163, 1272, false, 1442), (12, 166, 1273, false, 1443), (12, 170, 1274, false, 1444), (12, 173, 1280, false, 1450), (12, 190, 1200, false, 1370), (12, 197, 1201, false, 1371), (12, 201, 1203, false, 1373), (12, 204, 1205, false, 1375), (12, 207, 1209, false, 1379), (12, 225, 1215, false, 1385), (12, 231, 1216, false, 1386), (12, 234, 1217, false, 1387), (12, 243, 1231, false, 1401), (12, 246, 1232, false, 1402), (12, 293, 1237, false, 1407), (12, 296, 1240, false, 1410), (12, 299, 1239, false, 1409), (12, 321, 1243, false, 1413), (12, 330, 1251, false, 1421), (12, 344, 1254, false, 1424), (12, 350, 1256, false, 1426), (12, 353, 1255, false, 1425), (12, 359, 1275, false, 1445), (12, 366, 1276, false, 1446), (12, 369, 1253, false, 1423), (12, 416, 1257, false, 1427), (12, 468, 1252, false, 1422), (12, 477, 1259, false, 1429), (12, 487, 1277, false, 1447), (12, 490, 1279, false, 1449), (12, 493, 1278, false, 1448), (13, 9, 1300, false, 2005), (13, 15, 1301, false, 2006)]
def am_SL : List (Nat × Nat × Nat × Nat) := [(0, 367, 0, 847), (0, 370, 1, 849), (5, 100, 2, 774), (12, 261, 3, 1734), (13, 38, 4, 1065), (13, 1053, 5, 1081)]
def am_ML : List (Nat × Nat × Nat × Bool × Nat) := [(0, 9, 1, true, 124), (0, 18, 2, true, 166), (0, 25, 3, true, 195), (0, 32, 4, false, 249), (0, 41, 5, false, 275), (0, 48, 6, false, 301), (0, 55, 7, false, 333), (0, 64, 8, false, 381), (0, 73, 9, true, 416), (0, 80, 10, false, 440), (0, 89, 11, false, 472), (0, 111, 14, false, 555), (0, 118, 15, false, 558), (0, 122, 17, false, 567), (0, 126, 18, false, 572), (0, 138, 20, false, 579), (0, 144, 22, false, 586), (0, 147, 23, false, 589), (0, 151, 25, false, 597), (0, 154, 26, false, 600), (0, 158, 28, false, 608), (0, 162, 31, false, 621), (0, 166, 29, false, 625), (0, 169, 32, false, 626), (0, 172, 33, false, 629), (0, 179, 34, false, 633), (0, 183, 35, false, 637), (0, 187, 38, false, 649), (0, 190, 39, false, 653), (0, 194, 40, false, 665), (0, 197, 42, false, 666), (0, 200, 44, false, 674), (0, 210, 48, false, 692), (0, 213, 50, false, 700), (0, 217, 71, false, 785), (0, 221, 72, false, 795), (0, 226, 74, false, 800), (0, 229, 78, false, 816), (0, 232, 80, false, 824), (0, 235, 51, false, 704), (0, 239, 82, false, 832), (0, 242, 89, false, 869), (0, 245, 90, false, 873), (0, 249, 92, false, 881), (0, 252, 93, false, 922), (0, 255, 99, false, 923), (0, 259, 102, false, 936), (0, 262, 104, false, 945), (0, 265, 105, false, 949), (0, 271, 109, false, 970), (0, 278, 116, false, 1001), (0, 281, 118, false, 1009), (0, 284, 119, false, 1013), (0, 290, 121, false, 1021), (0, 296, 122, false, 1025), (0, 306, 159, false, 1240), (0, 309, 161, false, 1248), (0, 312, 162, false, 1251), (0, 316, 163, false, 1255), (0, 320, 175, false, 1312), (0, 323, 176, false, 1317), (0, 326, 179, false, 1329), (0, 329, 180, false, 1337), (0, 332, 45, false, 1342), (0, 335, 182, false, 1343), (0, 339, 186, false, 1360), (0, 359, 66, false, 764), (0, 364, 67, false, 767), (0, 373, 85, false, 1281), (0, 378, 53, false, 711), (0, 381, 69, false, 777), (0, 387, 52, false, 1347), (0, 392, 183, false, 1348), (0, 395, 184, false, 1352), (3, 44, 20, true, 612), (3, 48, 29, false, 613), (3, 51, 36, true, 641), (3, 58, 40, false, 657), (3, 62, 38, false, 682), (3, 65, 42, false, 683), (3, 68, 65, true, 761), (3, 77, 45, false, 678), (3, 80, 46, false, 684), (3, 83, 47, false, 688), (3, 87, 62, false, 747), (3, 90, 61, false, 857), (7, 50, 14, true, 940), (7, 54, 106, false, 953), (7, 58, 52, false, 957), (7, 64, 104, false, 958), (7, 67, 107, false, 959), (7, 71, 85, true, 963), (7, 75, 58, false, 964), (7, 81, 17, false, 965), (7, 87, 110, false, 974), (7, 91, 113, false, 986), (7, 95, 115, false, 994), (7, 105, 36, true, 978), (7, 108, 111, false, 979), (7, 112, 112, false, 983), (7, 117, 114, false, 990), (6, 39, 93, false, 885), (6, 43, 14, true, 891), (6, 47, 51, false, 889), (6, 53, 52, false, 890), (6, 66, 94, false, 893), (6, 74, 62, false, 904), (6, 78, 45, false, 905), (6, 81, 96, false, 906), (6, 85, 56, false, 897), (6, 88, 57, false, 898), (6, 92, 95, false, 899), (6, 96, 67, false, 903), (6, 102, 46, false, 910), (6, 105, 42, false, 911), (6, 108, 97, false, 912), (6, 111, 64, false, 917), (6, 114, 36, true, 916), (10, 30, 123, false, 1029), (10, 37, 145, false, 1173), (10, 50, 146, false, 1177), (10, 54, 154, false, 1210), (10, 57, 155, false, 1214), (10, 63, 11, false, 1227), (10, 66, 147, false, 1181), (10, 70, 148, false, 1185), (10, 74, 149, false, 1190), (10, 78, 150, false, 1194), (10, 81, 153, false, 1206), (10, 84, 151, false, 1198), (10, 87, 152, false, 1202), (4, 34, 83, false, 836), (4, 43, 48, false, 858), (4, 47, 87, false, 859), (4, 56, 84, false, 840), (4, 60, 86, false, 853), (4, 64, 85, true, 844), (4, 68, 56, false, 851), (4, 71, 58, false, 852), (4, 76, 62, false, 863), (4, 79, 64, false, 864), (11, 25, 171, false, 1291), (11, 31, 173, false, 1299), (11, 35, 67, false, 1303), (11, 42, 174, false, 1305), (11, 47, 170, false, 1287), (11, 50, 172, false, 1295), (11, 53, 180, false, 1333), (1, 34, 14, true, 562), (1, 48, 52, false, 708), (1, 54, 58, false, 731), (9, 26, 112, false, 1033), (9, 32, 67, false, 1034), (9, 38, 124, false, 1035), (9, 41, 127, false, 1045), (9, 45, 128, false, 1048), (9, 48, 144, false, 1169), (9, 52, 125, false, 1039), (9, 55, 126, false, 1042), (9, 58, 129, false, 1052), (9, 61, 138, false, 1109), (9, 66, 139, false, 1114), (9, 74, 130, false, 1057), (9, 78, 132, false, 1067), (9, 82, 137, false, 1105), (8, 48, 89, false, 1259), (8, 51, 164, false, 1260), (8, 55, 90, false, 1268), (8, 58, 166, false, 1269), (8, 62, 165, false, 1264), (8, 68, 167, false, 1273), (8, 71, 169, false, 1283), (8, 77, 171, false, 1310), (8, 81, 168, true, 1278), (8, 84, 58, false, 1282), (8, 88, 14, true, 1311), (8, 91, 52, false, 1277), (8, 97, 18, true, 1316), (5, 34, 54, false, 715), (5, 46, 14, true, 718), (5, 50, 55, false, 719), (5, 54, 59, false, 735), (5, 57, 60, false, 739), (5, 65, 61, false, 743), (5, 72, 63, false, 751), (5, 76, 56, false, 723), (5, 79, 57, false, 727), (5, 85, 48, false, 755), (5, 89, 62, false, 756), (5, 93, 64, false, 757), (5, 96, 68, false, 770), (5, 105, 72, false, 789), (14, 9, 0, false, 116), (14, 12, 187, false, 1366), (14, 13, 12, false, 547), (14, 17, 188, false, 1614), (14, 18, 13, false, 551), (14, 22, 189, false, 1618), (14, 23, 16, false, 563), (14, 27, 192, false, 1628), (14, 28, 19, false, 575), (14, 32, 193, false, 1633), (14, 33, 21, false, 582), (14, 37, 195, false, 1641), (14, 38, 24, false, 593), (14, 42, 196, false, 1645), (14, 43, 27, false, 604), (14, 47, 200, false, 1659), (14, 48, 30, false, 617), (14, 52, 201, false, 1663), (14, 53, 37, false, 645), (14, 56, 203, false, 1670), (14, 57, 41, false, 661), (14, 60, 205, false, 1678), (14, 61, 43, false, 670), (14, 64, 207, false, 1686), (14, 65, 49, false, 696), (14, 69, 210, false, 1698), (14, 70, 70, false, 781), (14, 73, 221, false, 1745), (14, 74, 73, false, 796), (14, 77, 223, false, 1752), (14, 78, 75, false, 804), (14, 81, 224, false, 1756), (14, 82, 76, false, 808), (14, 85, 225, false, 1760), (14, 86, 77, false, 812), (14, 89, 226, false, 1764), (14, 90, 79, false, 820), (14, 94, 227, false, 1768), (14, 95, 81, false, 828), (14, 98, 228, false, 1772), (14, 99, 88, false, 865), (14, 102, 229, false, 1776), (14, 103, 91, false, 877), (14, 106, 231, false, 1784), (14, 107, 98, false, 918), (14, 110, 235, false, 1802), (14, 111, 100, false, 927), (14, 115, 236, false, 1806), (14, 116, 101, false, 932), (14, 119, 237, false, 1811), (14, 120, 103, false, 941), (14, 123, 238, false, 1815), (14, 124, 108, false, 966), (14, 127, 240, false, 1823), (14, 128, 117, false, 1005), (14, 132, 245, false, 1843), (14, 133, 120, false, 1017), (14, 136, 247, false, 1851), (14, 137, 156, false, 1228), (14, 140, 264, false, 1945), (14, 141, 157, false, 1232), (14, 144, 265, false, 1949), (14, 145, 158, false, 1236), (14, 148, 194, false, 1637), (14, 149, 160, false, 1244), (14, 152, 268, false, 1961), (14, 153, 177, false, 1321), (14, 156, 275, false, 1989), (14, 157, 178, false, 1325), (14, 160, 266, false, 1953), (14, 161, 181, false, 1338), (14, 164, 276, false, 1993), (14, 165, 185, false, 1356), (14, 168, 278, false, 2001), (12, 176, 191, false, 1625), (12, 180, 66, false, 1732), (12, 186, 67, false, 1733), (12, 193, 190, false, 1622), (12, 210, 197, false, 1649), (12, 213, 198, false, 1652), (12, 217, 199, false, 1656), (12, 221, 213, false, 1710), (12, 228, 202, false, 1667), (12, 237, 204, false, 1674), (12, 240, 206, false, 1682), (12, 249, 209, false, 1694), (12, 252, 208, false, 1690), (12, 255, 218, false, 1729), (12, 258, 217, false, 1725), (12, 266, 212, false, 1706), (12, 269, 214, false, 1714), (12, 272, 215, false, 1717), (12, 275, 216, false, 1721), (12, 279, 220, false, 1741), (12, 282, 211, false, 1702), (12, 286, 219, false, 1737), (12, 290, 222, false, 1749), (12, 302, 230, false, 1780), (12, 307, 233, false, 1793), (12, 311, 234, false, 1797), (12, 316, 232, false, 1788), (12, 324, 239, false, 1819), (12, 327, 242, false, 1831), (12, 334, 244, false, 1839), (12, 337, 243, false, 1835), (12, 341, 241, false, 1827), (12, 347, 246, false, 1847), (12, 356, 249, false, 1859), (12, 362, 253, false, 1876), (12, 372, 258, false, 1911), (12, 375, 259, false, 1915), (12, 381, 252, false, 1872), (12, 385, 260, false, 1919), (12, 419, 257, false, 1907), (12, 422, 261, false, 1924), (12, 425, 262, false, 1928), (12, 429, 256, false, 1894), (12, 446, 254, false, 1880), (12, 453, 255, false, 1890), (12, 460, 251, false, 1867), (12, 465, 250, false, 1863), (12, 471, 248, false, 1855), (12, 474, 263, false, 1941), (12, 481, 267, false, 1957), (12, 484, 273, false, 1981), (12, 496, 270, false, 1969), (12, 499, 271, false, 1973), (12, 502, 272, false, 1977), (12, 506, 269, false, 1965), (12, 509, 274, false, 1985), (12, 512, 277, false, 1997), (13, 335, 131, false, 1061), (13, 492, 133, false, 1071), (13, 495, 134, false, 1075), (13, 505, 130, false, 1122), (13, 633, 140, false, 1118), (13, 637, 141, false, 1123), (13, 1059, 136, false, 1083), (19, 9, 135, false, 1078), (19, 38, 112, false, 1130), (19, 88, 142, false, 1126), (19, 92, 67, false, 1129), (19, 95, 143, false, 1131), (15, 304, 112, false, 1224)]
def am_CL : List (Nat × Nat × Nat × Nat) := [(0, 7, 1, 122), (0, 16, 2, 164), (0, 23, 3, 193), (0, 30, 4, 247), (0, 39, 5, 273), (0, 46, 6, 299), (0, 53, 7, 331), (0, 62, 8, 379), (0, 71, 9, 414), (0, 78, 10, 438), (0, 87, 11, 470), (10, 11, 11, 1226), (14, 7, 0, 114), (14, 10, 12, 1364)]
def am_KL : List (Nat × Nat × Int × Nat) := [(0, 125, 99999, 571), (0, 258, (-2000000000), 931), (6, 65, 1000000000, 892), (10, 77, 100000, 1189), (11, 46, 100000, 1309), (12, 200, 99999, 1632), (12, 320, (-2000000000), 1810), (17, 265, 1431655765, 792), (17, 266, 858993459, 793), (17, 267, 252645135, 794)]
def am_KLL : List (Nat × Nat × Int × Nat) := [(0, 376, 100, 644), (11, 40, (-2), 1304), (5, 103, (-1), 776), (12, 264, (-1), 1736), (12, 305, 1000000000, 1792), (12, 314, 100, 1801), (12, 379, 28530, 1940), (12, 388, 6385252, 1939), (12, 390, 2036687218, 1931), (12, 392, 1937007984, 1932), (12, 394, 1718579044, 1933), (12, 396, 7169390, 1934), (12, 398, 474316174440, 1884), (12, 400, 1700885364, 1885), (12, 402, 495791207528, 1886), (12, 404, 2003137396, 1887), (12, 406, 418330406772, 1935), (12, 408, 491327153000, 1936), (12, 410, 500136506228, 1937), (12, 412, 439855772532, 1938), (12, 414, 7237492, 1923), (12, 432, 6713202, 1898), (12, 434, 482671093106, 1899), (12, 436, 444300621413, 1900), (12, 438, 1953459300, 1901), (12, 440, 108230850603124, 1902), (12, 442, 31084793196801639, 1903), (12, 444, 26479, 1871), (12, 449, 2002873451, 1888), (12, 451, 7364985, 1889), (12, 456, 1937006969, 1904), (12, 458, 465557354085, 1905), (12, 463, 26982, 1906)]
def am_OI : List (Nat × Nat × Nat) := [(0, 1, 119), (3, 3, 198), (7, 3, 336), (6, 3, 304), (2, 3, 169), (10, 3, 443), (4, 3, 252), (11, 3, 475), (1, 3, 127), (9, 3, 419), (8, 3, 384), (5, 3, 278), (12, 1, 1369)]
def am_MP : List (Nat × Nat × Nat × Nat × Nat) := [(0, 118, 117, 92, 0), (1, 126, 125, 93, 0), (2, 168, 167, 94, 0), (3, 197, 196, 95, 0), (4, 251, 250, 96, 0), (5, 277, 276, 97, 0), (6, 303, 302, 98, 0), (7, 335, 334, 99, 0), (8, 383, 382, 100, 0), (9, 418, 417, 101, 0), (10, 442, 441, 102, 0), (11, 474, 473, 103, 0), (12, 550, 548, 92, 549), (13, 554, 552, 92, 553), (14, 557, 556, 92, 0), (15, 561, 559, 93, 560), (16, 566, 564, 92, 565), (17, 570, 568, 93, 569), (18, 574, 573, 92, 0), (19, 578, 576, 92, 577), (20, 581, 580, 92, 0), (21, 585, 583, 92, 584), (22, 588, 587, 92, 0), (23, 592, 590, 93, 591), (24, 596, 594, 92, 595), (25, 599, 598, 92, 0), (26, 603, 601, 93, 602), (27, 607, 605, 92, 606), (28, 611, 609, 95, 610), (29, 616, 614, 95, 615), (30, 620, 618, 92, 619), (31, 624, 622, 95, 623), (32, 628, 627, 92, 0), (33, 632, 630, 95, 631), (34, 636, 634, 95, 635), (35, 640, 638, 95, 639), (36, 643, 642, 92, 0), (37, 648, 646, 92, 647), (38, 652, 650, 95, 651), (39, 656, 654, 95, 655), (40, 660, 658, 95, 659), (41, 664, 662, 92, 663), (42, 669, 667, 95, 668), (43, 673, 671, 92, 672), (44, 677, 675, 95, 676), (45, 681, 679, 95, 680), (46, 687, 685, 95, 686), (47, 691, 690, 95, 0), (48, 695, 693, 95, 694), (49, 699, 697, 92, 698), (50, 703, 702, 92, 1), (51, 707, 705, 93, 706), (52, 710, 709, 105, 0), (53, 714, 712, 97, 713), (54, 717, 716, 105, 0), (55, 722, 721, 97, 2), (56, 726, 724, 94, 725), (57, 730, 728, 93, 729), (58, 734, 732, 93, 733), (59, 738, 737, 97, 3), (60, 742, 741, 97, 4), (61, 746, 744, 95, 745), (62, 750, 748, 95, 749), (63, 754, 753, 97, 5), (64, 760, 758, 95, 759), (65, 763, 762, 92, 0), (66, 766, 765, 106, 0), (67, 769, 768, 106, 0), (68, 773, 772, 97, 6), (69, 780, 778, 97, 779), (70, 784, 782, 92, 783), (71, 788, 786, 97, 787), (72, 791, 790, 107, 0), (73, 799, 797, 92, 798), (74, 803, 802, 92, 7), (75, 807, 805, 92, 806), (76, 811, 809, 92, 810), (77, 815, 813, 92, 814), (78, 819, 817, 96, 818), (79, 823, 821, 92, 822), (80, 827, 825, 96, 826), (81, 831, 829, 92, 830), (82, 835, 833, 96, 834), (83, 839, 838, 96, 8), (84, 843, 842, 96, 9), (85, 846, 845, 92, 0), (86, 856, 854, 95, 855), (87, 862, 861, 96, 10), (88, 868, 866, 92, 867), (89, 872, 870, 100, 871), (90, 876, 874, 100, 875), (91, 880, 878, 92, 879), (92, 884, 882, 98, 883), (93, 888, 886, 98, 887), (94, 896, 895, 98, 11), (95, 902, 901, 98, 12), (96, 909, 908, 98, 13), (97, 915, 914, 98, 14), (98, 921, 919, 92, 920), (99, 926, 924, 98, 925), (100, 930, 928, 92, 929), (101, 935, 933, 92, 934), (102, 939, 937, 99, 938), (103, 944, 942, 92, 943), (104, 948, 946, 99, 947), (105, 952, 950, 99, 951), (106, 956, 955, 99, 15), (107, 962, 961, 99, 16), (108, 969, 967, 92, 968), (109, 973, 971, 99, 972), (110, 977, 976, 99, 17), (111, 982, 981, 99, 18), (112, 985, 984, 106, 0), (113, 989, 988, 99, 19), (114, 993, 992, 99, 20), (115, 997, 996, 99, 21), (116, 1004, 1002, 99, 1003), (117, 1008, 1006, 92, 1007), (118, 1012, 1010, 101, 1011), (119, 1016, 1014, 101, 1015), (120, 1020, 1018, 92, 1019), (121, 1024, 1022, 101, 1023), (122, 1028, 1026, 102, 1027), (123, 1032, 1030, 101, 1031), (124, 1038, 1037, 101, 22), (125, 1041, 1040, 101, 0), (126, 1044, 1043, 101, 0), (127, 1047, 1046, 101, 0), (128, 1051, 1050, 101, 23), (129, 1055, 1054, 101, 24), (130, 1060, 1058, 109, 1059), (131, 1064, 1062, 109, 1063), (132, 1070, 1068, 109, 1069), (133, 1074, 1072, 109, 1073), (134, 1077, 1076, 110, 0), (135, 1080, 1079, 109, 0), (136, 1085, 1084, 111, 0), (137, 1108, 1107, 101, 25), (138, 1112, 1111, 101, 26), (139, 1117, 1115, 109, 1116), (140, 1121, 1119, 109, 1120), (141, 1125, 1124, 110, 0), (142, 1128, 1127, 110, 0), (143, 1133, 1132, 110, 0), (144, 1172, 1171, 101, 27), (145, 1176, 1174, 101, 1175), (146, 1180, 1179, 102, 28), (147, 1184, 1183, 102, 29), (148, 1188, 1187, 102, 30), (149, 1193, 1192, 102, 31), (150, 1197, 1196, 102, 32), (151, 1201, 1200, 102, 33), (152, 1205, 1204, 102, 34), (153, 1209, 1208, 102, 35), (154, 1213, 1211, 101, 1212), (155, 1216, 1215, 105, 0), (156, 1231, 1229, 92, 1230), (157, 1235, 1233, 92, 1234), (158, 1239, 1237, 92, 1238), (159, 1243, 1241, 93, 1242), (160, 1247, 1245, 92, 1246), (161, 1250, 1249, 92, 0), (162, 1254, 1253, 92, 36), (163, 1258, 1256, 100, 1257), (164, 1263, 1262, 100, 37), (165, 1267, 1265, 93, 1266), (166, 1272, 1271, 100, 38), (167, 1276, 1275, 100, 39), (168, 1280, 1279, 92, 0), (169, 1286, 1284, 103, 1285), (170, 1290, 1289, 103, 40), (171, 1294, 1292, 103, 1293), (172, 1298, 1297, 103, 41), (173, 1302, 1301, 103, 42), (174, 1308, 1307, 103, 43), (175, 1315, 1313, 100, 1314), (176, 1320, 1318, 100, 1319), (177, 1324, 1322, 92, 1323), (178, 1328, 1326, 92, 1327), (179, 1332, 1330, 103, 1331), (180, 1336, 1334, 103, 1335), (181, 1341, 1339, 92, 1340), (182, 1346, 1345, 92, 44), (183, 1351, 1349, 95, 1350), (184, 1355, 1353, 103, 1354), (185, 1359, 1357, 92, 1358), (186, 1363, 1361, 95, 1362), (187, 1368, 1367, 104, 0), (188, 1617, 1615, 104, 1616), (189, 1621, 1619, 104, 1620), (190, 1624, 1623, 104, 0), (191, 1627, 1626, 104, 0), (192, 1631, 1629, 104, 1630), (193, 1636, 1634, 104, 1635), (194, 1640, 1638, 104, 1639), (195, 1644, 1642, 104, 1643), (196, 1648, 1646, 104, 1647), (197, 1651, 1650, 104, 0), (198, 1655, 1654, 104, 45), (199, 1658, 1657, 104, 0), (200, 1662, 1660, 104, 1661), (201, 1666, 1664, 104, 1665), (202, 1669, 1668, 104, 0), (203, 1673, 1671, 104, 1672), (204, 1677, 1676, 104, 46), (205, 1681, 1679, 104, 1680), (206, 1685, 1684, 104, 47), (207, 1689, 1687, 104, 1688), (208, 1693, 1692, 104, 48), (209, 1697, 1696, 104, 49), (210, 1701, 1699, 104, 1700), (211, 1705, 1704, 104, 50), (212, 1709, 1708, 104, 51), (213, 1713, 1712, 104, 52), (214, 1716, 1715, 104, 0), (215, 1720, 1719, 104, 53), (216, 1724, 1723, 104, 54), (217, 1728, 1727, 104, 55), (218, 1731, 1730, 104, 0), (219, 1740, 1739, 104, 56), (220, 1744, 1743, 104, 57), (221, 1748, 1746, 104, 1747), (222, 1751, 1750, 104, 0), (223, 1755, 1753, 104, 1754), (224, 1759, 1757, 104, 1758), (225, 1763, 1761, 104, 1762), (226, 1767, 1765, 104, 1766), (227, 1771, 1769, 104, 1770), (228, 1775, 1773, 104, 1774), (229, 1779, 1777, 104, 1778), (230, 1783, 1782, 104, 58), (231, 1787, 1785, 104, 1786), (232, 1791, 1790, 104, 59), (233, 1796, 1795, 104, 60), (234, 1800, 1799, 104, 61), (235, 1805, 1803, 104, 1804), (236, 1809, 1807, 104, 1808), (237, 1814, 1812, 104, 1813), (238, 1818, 1816, 104, 1817), (239, 1822, 1821, 104, 62), (240, 1826, 1824, 104, 1825), (241, 1830, 1829, 104, 63), (242, 1834, 1833, 104, 64), (243, 1838, 1837, 104, 65), (244, 1842, 1841, 104, 66), (245, 1846, 1844, 104, 1845), (246, 1850, 1849, 104, 67), (247, 1854, 1852, 104, 1853), (248, 1858, 1857, 104, 68), (249, 1862, 1861, 104, 69), (250, 1866, 1865, 104, 70), (251, 1870, 1869, 104, 71), (252, 1875, 1874, 104, 72), (253, 1879, 1878, 104, 73), (254, 1883, 1882, 104, 74), (255, 1893, 1892, 104, 75), (256, 1897, 1896, 104, 76), (257, 1910, 1909, 104, 77), (258, 1914, 1913, 104, 78), (259, 1918, 1917, 104, 79), (260, 1922, 1921, 104, 80), (261, 1927, 1926, 104, 81), (262, 1930, 1929, 104, 0), (263, 1944, 1943, 104, 82), (264, 1948, 1946, 104, 1947), (265, 1952, 1950, 104, 1951), (266, 1956, 1954, 104, 1955), (267, 1960, 1959, 104, 83), (268, 1964, 1962, 104, 1963), (269, 1968, 1967, 104, 84), (270, 1972, 1971, 104, 85), (271, 1976, 1975, 104, 86), (272, 1980, 1979, 104, 87), (273, 1984, 1983, 104, 88), (274, 1988, 1987, 104, 89), (275, 1992, 1990, 104, 1991), (276, 1996, 1994, 104, 1995), (277, 2000, 1999, 104, 90), (278, 2004, 2002, 104, 2003)]
def am_CP : List (Nat × Nat × Nat) := [(0, 115, 92), (1, 123, 93), (2, 165, 94), (3, 194, 95), (4, 248, 96), (5, 274, 97), (6, 300, 98), (7, 332, 99), (8, 380, 100), (9, 415, 101), (10, 439, 102), (11, 471, 103), (12, 1365, 104)]
def am_FP : List (Nat × Nat × Nat) := [(0, 0, 510), (0, 1, 512), (0, 2, 514), (0, 3, 516), (0, 4, 518), (0, 5, 520), (0, 6, 522), (0, 7, 524), (0, 8, 526), (0, 9, 528), (0, 10, 530), (0, 11, 532), (0, 12, 534), (0, 13, 536), (0, 14, 538), (0, 15, 540), (0, 16, 542), (0, 17, 544), (1, 0, 141), (1, 1, 143), (1, 2, 145), (1, 3, 147), (1, 4, 149), (1, 5, 151), (1, 6, 153), (1, 7, 155), (1, 8, 157), (1, 9, 159), (2, 0, 184), (2, 1, 186), (2, 2, 188), (2, 3, 190), (3, 0, 220), (3, 1, 222), (3, 2, 224), (3, 3, 226), (3, 4, 228), (3, 5, 230), (3, 6, 232), (3, 7, 234), (3, 8, 236), (3, 9, 238), (3, 10, 240), (3, 11, 242), (3, 12, 244), (4, 0, 260), (4, 1, 262), (4, 2, 264), (4, 3, 266), (4, 4, 268), (4, 5, 270), (5, 0, 285), (5, 1, 287), (5, 2, 289), (5, 3, 291), (5, 4, 293), (5, 5, 295), (6, 0, 314), (6, 1, 316), (6, 2, 318), (6, 3, 320), (6, 4, 322), (6, 5, 324), (6, 6, 326), (6, 7, 328), (7, 0, 352), (7, 1, 354), (7, 2, 356), (7, 3, 358), (7, 4, 360), (7, 5, 362), (7, 6, 364), (7, 7, 366), (7, 8, 368), (7, 9, 370), (7, 10, 372), (7, 11, 374), (7, 12, 376), (8, 0, 395), (8, 1, 397), (8, 2, 399), (8, 3, 401), (8, 4, 403), (8, 5, 405), (8, 6, 407), (8, 7, 409), (8, 8, 411), (9, 0, 426), (9, 1, 428), (9, 2, 430), (9, 3, 432), (9, 4, 434), (10, 0, 453), (10, 1, 455), (10, 2, 457), (10, 3, 459), (10, 4, 461), (10, 5, 463), (10, 6, 465), (10, 7, 467), (11, 0, 482), (11, 1, 484), (11, 2, 486), (11, 3, 488), (12, 0, 1451), (12, 1, 1453), (12, 2, 1455), (12, 3, 1457), (12, 4, 1459), (12, 5, 1461), (12, 6, 1463), (12, 7, 1465), (12, 8, 1467), (12, 9, 1469), (12, 10, 1471), (12, 11, 1473), (12, 12, 1475), (12, 13, 1477), (12, 14, 1479), (12, 15, 1481), (12, 16, 1483), (12, 17, 1485), (12, 18, 1487), (12, 19, 1489), (12, 20, 1491), (12, 21, 1493), (12, 22, 1495), (12, 23, 1497), (12, 24, 1499), (12, 25, 1501), (12, 26, 1503), (12, 27, 1505), (12, 28, 1507), (12, 29, 1509), (12, 30, 1511), (12, 31, 1513), (12, 32, 1515), (12, 33, 1517), (12, 34, 1519), (12, 35, 1521), (12, 36, 1523), (12, 37, 1525), (12, 38, 1527), (12, 39, 1529), (12, 40, 1531), (12, 41, 1533), (12, 42, 1535), (12, 43, 1537), (12, 44, 1539), (12, 45, 1541), (12, 46, 1543), (12, 47, 1545), (12, 48, 1547), (12, 49, 1549), (12, 50, 1551), (12, 51, 1553), (12, 52, 1555), (12, 53, 1557), (12, 54, 1559), (12, 55, 1561), (12, 56, 1563), (12, 57, 1565), (12, 58, 1567), (12, 59, 1569), (12, 60, 1571), (12, 61, 1573), (12, 62, 1575), (12, 63, 1577), (12, 64, 1579), (12, 65, 1581), (12, 66, 1583), (12, 67, 1585), (12, 68, 1587), (12, 69, 1589), (12, 70, 1591), (12, 71, 1593), (12, 72, 1595), (12, 73, 1597), (12, 74, 1599), (12, 75, 1601), (12, 76, 1603), (12, 77, 1605), (12, 78, 1607), (12, 79, 1609), (12, 80, 1611)]
