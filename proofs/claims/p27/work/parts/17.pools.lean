/-! THE PROGRAM's TABLES, by program (wip/whole/gen_t.py) out of the claim's own texts -/
def xCds : List xCd := [("ReportMill$Code", [("ReportMill$Code", "operations", "[I", true, (.array .int)), ("ReportMill$Code", "arguments", "[J", true, (.array .long)), ("ReportMill$Code", "length", "I", false, .int), ("ReportMill$Code", "textBytes", "[B", true, (.array .byte)), ("ReportMill$Code", "textStarts", "[I", true, (.array .int)), ("ReportMill$Code", "textCount", "I", false, .int)], 0),
  ("ReportMill$Compiler", [("ReportMill$Compiler", "tape", "LReportMill$Tape;", true, (.object "ReportMill$Tape")), ("ReportMill$Compiler", "table", "LReportMill$Table;", true, (.object "ReportMill$Table")), ("ReportMill$Compiler", "program", "LReportMill$Program;", true, (.object "ReportMill$Program")), ("ReportMill$Compiler", "expressions", "LReportMill$Expressions;", true, (.object "ReportMill$Expressions"))], 0),
  ("ReportMill$Definitions", [("ReportMill$Definitions", "length", "I", false, .int), ("ReportMill$Definitions", "names", "[J", true, (.array .long)), ("ReportMill$Definitions", "texts", "[Z", true, (.array .boolean)), ("ReportMill$Definitions", "starts", "[I", true, (.array .int)), ("ReportMill$Definitions", "tallies", "[LReportMill$Kind;", true, (.array (.object "ReportMill$Kind"))), ("ReportMill$Definitions", "scopes", "[I", true, (.array .int))], 0),
  ("ReportMill$Expressions", [("ReportMill$Expressions", "tape", "LReportMill$Tape;", true, (.object "ReportMill$Tape")), ("ReportMill$Expressions", "table", "LReportMill$Table;", true, (.object "ReportMill$Table")), ("ReportMill$Expressions", "program", "LReportMill$Program;", true, (.object "ReportMill$Program")), ("ReportMill$Expressions", "code", "LReportMill$Code;", false, (.object "ReportMill$Code")), ("ReportMill$Expressions", "where", "I", false, .int)], 0),
  ("ReportMill$Machine", [("ReportMill$Machine", "table", "LReportMill$Table;", true, (.object "ReportMill$Table")), ("ReportMill$Machine", "isText", "[Z", true, (.array .boolean)), ("ReportMill$Machine", "numbers", "[J", true, (.array .long)), ("ReportMill$Machine", "lengths", "[I", true, (.array .int)), ("ReportMill$Machine", "bytes", "[B", true, (.array .byte))], 0),
  ("ReportMill$Paper", [("ReportMill$Paper", "width", "I", false, .int), ("ReportMill$Paper", "height", "I", false, .int), ("ReportMill$Paper", "pageCount", "I", false, .int), ("ReportMill$Paper", "bytes", "[B", true, (.array .byte))], 0),
  ("ReportMill$Program", [("ReportMill$Program", "isThere", "Z", false, .boolean), ("ReportMill$Program", "hasPage", "Z", false, .boolean), ("ReportMill$Program", "width", "I", false, .int), ("ReportMill$Program", "height", "I", false, .int), ("ReportMill$Program", "orderCount", "I", false, .int), ("ReportMill$Program", "orders", "[I", true, (.array .int)), ("ReportMill$Program", "downs", "[Z", true, (.array .boolean)), ("ReportMill$Program", "groupCount", "I", false, .int), ("ReportMill$Program", "groups", "[I", true, (.array .int)), ("ReportMill$Program", "lets", "LReportMill$Definitions;", true, (.object "ReportMill$Definitions")), ("ReportMill$Program", "totals", "LReportMill$Definitions;", true, (.object "ReportMill$Definitions")), ("ReportMill$Program", "code", "LReportMill$Code;", true, (.object "ReportMill$Code")), ("ReportMill$Program", "bands", "[I", true, (.array .int)), ("ReportMill$Program", "itemCount", "I", false, .int), ("ReportMill$Program", "itemKinds", "[LReportMill$Kind;", true, (.array (.object "ReportMill$Kind"))), ("ReportMill$Program", "itemNumbers", "[I", true, (.array .int)), ("ReportMill$Program", "itemCodes", "[I", true, (.array .int)), ("ReportMill$Program", "itemEnds", "[I", true, (.array .int))], 0),
  ("ReportMill$Runner", [("ReportMill$Runner", "table", "LReportMill$Table;", true, (.object "ReportMill$Table")), ("ReportMill$Runner", "program", "LReportMill$Program;", true, (.object "ReportMill$Program")), ("ReportMill$Runner", "machine", "LReportMill$Machine;", true, (.object "ReportMill$Machine")), ("ReportMill$Runner", "paper", "LReportMill$Paper;", true, (.object "ReportMill$Paper")), ("ReportMill$Runner", "runs", "I", false, .int), ("ReportMill$Runner", "firstPages", "I", false, .int), ("ReportMill$Runner", "takenRows", "I", false, .int), ("ReportMill$Runner", "printedLines", "I", false, .int), ("ReportMill$Runner", "error", "I", false, .int), ("ReportMill$Runner", "order", "[I", true, (.array .int)), ("ReportMill$Runner", "breaks", "[I", true, (.array .int)), ("ReportMill$Runner", "hasTaken", "[Z", true, (.array .boolean)), ("ReportMill$Runner", "topHeight", "I", false, .int), ("ReportMill$Runner", "bodyHeight", "I", false, .int), ("ReportMill$Runner", "bottomLine", "I", false, .int), ("ReportMill$Runner", "usedLines", "I", false, .int)], 0),
  ("ReportMill$Table", [("ReportMill$Table", "columnCount", "I", false, .int), ("ReportMill$Table", "cellCount", "I", false, .int), ("ReportMill$Table", "names", "[J", true, (.array .long)), ("ReportMill$Table", "texts", "[Z", true, (.array .boolean)), ("ReportMill$Table", "cells", "[J", true, (.array .long))], 0),
  ("ReportMill$Tape", [("ReportMill$Tape", "bytes", "[B", true, (.array .byte)), ("ReportMill$Tape", "length", "I", false, .int), ("ReportMill$Tape", "kinds", "[LReportMill$Kind;", true, (.array (.object "ReportMill$Kind"))), ("ReportMill$Tape", "starts", "[I", true, (.array .int)), ("ReportMill$Tape", "values", "[J", true, (.array .long)), ("ReportMill$Tape", "tokenCount", "I", false, .int), ("ReportMill$Tape", "index", "I", false, .int), ("ReportMill$Tape", "room", "I", false, .int), ("ReportMill$Tape", "kind", "LReportMill$Kind;", false, (.object "ReportMill$Kind")), ("ReportMill$Tape", "start", "I", false, .int), ("ReportMill$Tape", "value", "J", false, .long), ("ReportMill$Tape", "error", "I", false, .int), ("ReportMill$Tape", "errorPlace", "I", false, .int)], 0),
  ("ReportMill", [("ReportMill", "table", "LReportMill$Table;", true, (.object "ReportMill$Table")), ("ReportMill", "tape", "LReportMill$Tape;", true, (.object "ReportMill$Tape")), ("ReportMill", "program", "LReportMill$Program;", true, (.object "ReportMill$Program")), ("ReportMill", "formula", "LReportMill$Code;", true, (.object "ReportMill$Code")), ("ReportMill", "expressions", "LReportMill$Expressions;", true, (.object "ReportMill$Expressions")), ("ReportMill", "compiler", "LReportMill$Compiler;", true, (.object "ReportMill$Compiler")), ("ReportMill", "machine", "LReportMill$Machine;", true, (.object "ReportMill$Machine")), ("ReportMill", "paper", "LReportMill$Paper;", true, (.object "ReportMill$Paper")), ("ReportMill", "runner", "LReportMill$Runner;", true, (.object "ReportMill$Runner"))], 0),
  ("java/lang/StringBuilder", [("java/lang/AbstractStringBuilder", "value", "[B", false, (.array .byte)), ("java/lang/AbstractStringBuilder", "coder", "B", false, .byte), ("java/lang/AbstractStringBuilder", "maybeLatin1", "Z", false, .boolean), ("java/lang/AbstractStringBuilder", "count", "I", false, .int)], 0),
  ("java/lang/String", [("java/lang/String", "value", "[B", true, (.array .byte)), ("java/lang/String", "coder", "B", true, .byte), ("java/lang/String", "hash", "I", false, .int), ("java/lang/String", "hashIsZero", "Z", false, .boolean)], 0),
  ("java/lang/IllegalStateException", [], 6),
  ("java/lang/IllegalStateException", [], 6),
  ("java/lang/IllegalArgumentException", [], 6),
  ("java/lang/IndexOutOfBoundsException", [], 6)]
def xCdB : List xCd := [("ReportMill$Kind", [("java/lang/Enum", "ordinal", "I", false, .int), ("ReportMill$Kind", "word", "J", false, .long), ("ReportMill$Kind", "role", "I", false, .int), ("ReportMill$Kind", "number", "I", false, .int)], 0),
  ("java/lang/String", [("java/lang/String", "value", "[B", false, (.array .byte)), ("java/lang/String", "coder", "B", false, .byte)], 0)]
def xSts (v : Value) : List (String × String × String × Value) := [("ReportMill$Kind", "PAGE", "LReportMill$Kind;", .ref 0),
  ("ReportMill$Kind", "ORDER", "LReportMill$Kind;", .ref 1),
  ("ReportMill$Kind", "DOWN", "LReportMill$Kind;", .ref 2),
  ("ReportMill$Kind", "GROUP", "LReportMill$Kind;", .ref 3),
  ("ReportMill$Kind", "LET", "LReportMill$Kind;", .ref 4),
  ("ReportMill$Kind", "TOTAL", "LReportMill$Kind;", .ref 5),
  ("ReportMill$Kind", "SUM", "LReportMill$Kind;", .ref 6),
  ("ReportMill$Kind", "COUNT", "LReportMill$Kind;", .ref 7),
  ("ReportMill$Kind", "LEAST", "LReportMill$Kind;", .ref 8),
  ("ReportMill$Kind", "MOST", "LReportMill$Kind;", .ref 9),
  ("ReportMill$Kind", "FIRST", "LReportMill$Kind;", .ref 10),
  ("ReportMill$Kind", "LAST", "LReportMill$Kind;", .ref 11),
  ("ReportMill$Kind", "PER", "LReportMill$Kind;", .ref 12),
  ("ReportMill$Kind", "BAND", "LReportMill$Kind;", .ref 13),
  ("ReportMill$Kind", "TITLE", "LReportMill$Kind;", .ref 14),
  ("ReportMill$Kind", "TOP", "LReportMill$Kind;", .ref 15),
  ("ReportMill$Kind", "BOTTOM", "LReportMill$Kind;", .ref 16),
  ("ReportMill$Kind", "BEFORE", "LReportMill$Kind;", .ref 17),
  ("ReportMill$Kind", "ROW", "LReportMill$Kind;", .ref 18),
  ("ReportMill$Kind", "AFTER", "LReportMill$Kind;", .ref 19),
  ("ReportMill$Kind", "SUMMARY", "LReportMill$Kind;", .ref 20),
  ("ReportMill$Kind", "END", "LReportMill$Kind;", .ref 21),
  ("ReportMill$Kind", "LINE", "LReportMill$Kind;", .ref 22),
  ("ReportMill$Kind", "AT", "LReportMill$Kind;", .ref 23),
  ("ReportMill$Kind", "SKIP", "LReportMill$Kind;", .ref 24),
  ("ReportMill$Kind", "NEED", "LReportMill$Kind;", .ref 25),
  ("ReportMill$Kind", "EJECT", "LReportMill$Kind;", .ref 26),
  ("ReportMill$Kind", "KEEP", "LReportMill$Kind;", .ref 27),
  ("ReportMill$Kind", "IF", "LReportMill$Kind;", .ref 28),
  ("ReportMill$Kind", "THEN", "LReportMill$Kind;", .ref 29),
  ("ReportMill$Kind", "ELSE", "LReportMill$Kind;", .ref 30),
  ("ReportMill$Kind", "LEFT", "LReportMill$Kind;", .ref 31),
  ("ReportMill$Kind", "RIGHT", "LReportMill$Kind;", .ref 32),
  ("ReportMill$Kind", "MID", "LReportMill$Kind;", .ref 33),
  ("ReportMill$Kind", "OR", "LReportMill$Kind;", .ref 34),
  ("ReportMill$Kind", "AND", "LReportMill$Kind;", .ref 35),
  ("ReportMill$Kind", "NOT", "LReportMill$Kind;", .ref 36),
  ("ReportMill$Kind", "LEN", "LReportMill$Kind;", .ref 37),
  ("ReportMill$Kind", "UPPER", "LReportMill$Kind;", .ref 38),
  ("ReportMill$Kind", "PART", "LReportMill$Kind;", .ref 39),
  ("ReportMill$Kind", "TEXT", "LReportMill$Kind;", .ref 40),
  ("ReportMill$Kind", "MONEY", "LReportMill$Kind;", .ref 41),
  ("ReportMill$Kind", "ABS", "LReportMill$Kind;", .ref 42),
  ("ReportMill$Kind", "PAGENO", "LReportMill$Kind;", .ref 43),
  ("ReportMill$Kind", "PAGES", "LReportMill$Kind;", .ref 44),
  ("ReportMill$Kind", "ROWNO", "LReportMill$Kind;", .ref 45),
  ("ReportMill$Kind", "OPEN", "LReportMill$Kind;", .ref 46),
  ("ReportMill$Kind", "CLOSE", "LReportMill$Kind;", .ref 47),
  ("ReportMill$Kind", "COMMA", "LReportMill$Kind;", .ref 48),
  ("ReportMill$Kind", "COLON", "LReportMill$Kind;", .ref 49),
  ("ReportMill$Kind", "EQUAL", "LReportMill$Kind;", .ref 50),
  ("ReportMill$Kind", "PLUS", "LReportMill$Kind;", .ref 51),
  ("ReportMill$Kind", "MINUS", "LReportMill$Kind;", .ref 52),
  ("ReportMill$Kind", "TIMES", "LReportMill$Kind;", .ref 53),
  ("ReportMill$Kind", "OVER", "LReportMill$Kind;", .ref 54),
  ("ReportMill$Kind", "REST", "LReportMill$Kind;", .ref 55),
  ("ReportMill$Kind", "JOIN", "LReportMill$Kind;", .ref 56),
  ("ReportMill$Kind", "LESS", "LReportMill$Kind;", .ref 57),
  ("ReportMill$Kind", "GREATER", "LReportMill$Kind;", .ref 58),
  ("ReportMill$Kind", "AT_MOST", "LReportMill$Kind;", .ref 59),
  ("ReportMill$Kind", "AT_LEAST", "LReportMill$Kind;", .ref 60),
  ("ReportMill$Kind", "UNEQUAL", "LReportMill$Kind;", .ref 61),
  ("ReportMill$Kind", "NAME", "LReportMill$Kind;", .ref 62),
  ("ReportMill$Kind", "NUMBER", "LReportMill$Kind;", .ref 63),
  ("ReportMill$Kind", "QUOTE", "LReportMill$Kind;", .ref 64),
  ("ReportMill$Kind", "TAPE_END", "LReportMill$Kind;", .ref 65),
  ("ReportMill$Kind", "WRONG", "LReportMill$Kind;", .ref 66),
  ("ReportMill$Kind", "ALL", "[LReportMill$Kind;", .ref 67),
  ("ReportMill$1", "$SwitchMap$ReportMill$Kind", "[I", .ref 68),
  ("java/lang/String", "COMPACT_STRINGS", "Z", .int 1),
  ("java/lang/StringUTF16", "$assertionsDisabled", "Z", .int 1),
  ("java/lang/StringUTF16", "HI_BYTE_SHIFT", "I", .int 0),
  ("java/lang/StringUTF16", "LO_BYTE_SHIFT", "I", .int 8),
  ("java/lang/Integer", "DigitOnes", "[B", .ref 77),
  ("java/lang/Integer", "DigitTens", "[B", .ref 78),
  ("jdk/internal/util/Preconditions", "SIOOBE_FORMATTER", "Ljava/util/function/BiFunction;", v)]
def xSrs : List (String × Nat × String × Nat) := [("ReportMillLaw", 55, "g", 69), ("ReportMillLaw", 60, "v", 71), ("ReportMillLaw", 77, "page 24 ", 73), ("ReportMillLaw", 86, " order g group g total a = sum v total b = sum v per g total p = count v per page band top line pageno : 4 pages : 4 end band row line v : 5 g : 3 p : 4 end band after g line \"=\" b : 7 b : 8 end band summary line \"+\" a : 7 end", 75)]
def xCwp : List xHt := [[(1, 196), (1, 198), (1, 200), (1, 202), (1, 204), (1, 206)],
  [(2, 93), (2, 95), (2, 97), (2, 99)],
  [(1, 158), (1, 160), (1, 162), (1, 164), (1, 166), (1, 168)],
  [(2, 72), (2, 74), (2, 76), (2, 78), (2, 80)],
  [(2, 116), (2, 118), (2, 120), (2, 122), (2, 124)],
  [(2, 142), (2, 144), (2, 146), (2, 148)],
  [(2, 22), (2, 24), (2, 26), (2, 28), (2, 30), (2, 32), (2, 34), (2, 36), (2, 38), (2, 40), (2, 42), (2, 44), (2, 46), (2, 48), (2, 50), (2, 52), (2, 54), (2, 56)],
  [(2, 180), (2, 182), (2, 184), (2, 186), (2, 188), (2, 190), (2, 192), (2, 194), (2, 196), (2, 198), (2, 200), (2, 202), (2, 204), (2, 206), (2, 208), (2, 210)],
  [(1, 55), (1, 57), (1, 59), (1, 61), (1, 63)],
  [(1, 102), (1, 104), (1, 106), (1, 108), (1, 110), (1, 112), (1, 114), (1, 116), (1, 118), (1, 120), (1, 122), (1, 124), (1, 126)],
  [(2, 222), (2, 224), (2, 226), (2, 228), (2, 230), (2, 232), (2, 234), (2, 236), (2, 238)],
  [(6, 179), (6, 181), (6, 183), (6, 185)],
  [(7, 118), (7, 120), (7, 122), (7, 124)],
  [],
  [],
  [],
  []]
def xNws : List Cond := [(.methodLinkNest "ReportMill" 9 ⟨"ReportMill$Table", "<init>", "()V"⟩ "ReportMill"),
  (.methodLinkNest "ReportMill" 18 ⟨"ReportMill$Tape", "<init>", "()V"⟩ "ReportMill"),
  (.methodLinkNest "ReportMill" 25 ⟨"ReportMill$Program", "<init>", "()V"⟩ "ReportMill"),
  (.methodLinkNest "ReportMill$Program" 24 ⟨"ReportMill$Definitions", "<init>", "()V"⟩ "ReportMill"),
  (.methodLinkNest "ReportMill" 68 ⟨"ReportMill$Paper", "<init>", "()V"⟩ "ReportMill"),
  (.castable "java/lang/IllegalStateException" "java/lang/IllegalStateException"),
  (.declares ⟨"java/lang/RuntimeException", "<init>", "()V"⟩),
  (.declares ⟨"java/lang/RuntimeException", "<init>", "(Ljava/lang/String;)V"⟩),
  (.declares ⟨"java/lang/Exception", "<init>", "()V"⟩),
  (.declares ⟨"java/lang/Exception", "<init>", "(Ljava/lang/String;)V"⟩),
  (.declares ⟨"java/lang/Throwable", "<init>", "()V"⟩),
  (.declares ⟨"java/lang/Throwable", "<init>", "(Ljava/lang/String;)V"⟩),
  (.castable "java/lang/IllegalArgumentException" "java/lang/IllegalArgumentException"),
  (.castable "java/lang/IndexOutOfBoundsException" "java/lang/IndexOutOfBoundsException"),
  (.declares ⟨"java/lang/Enum", "ordinal", "()I"⟩),
  (.castable "[B" "java/lang/Cloneable")]
def xNcl : List (String × String) := []
def xNcs : List (String × String) × List Cond := (xNcl, xNws)
def xq_0_0 : xTab ((Nat × Nat) × xHt) := []
def xq_0_1 : xTab ((Nat × Nat × Bool) × xHt) := []
def xq_0_2 : xTab (Value × xHt) := []
def xq_0_3 : xTab (Nat × xHt) := [(75, [(20, (10, [(1, 33), (1, 34), (1, 1)])), (74, (11, [(6, 158), (6, 159), (1, 25)]))])]
def xq_0_4 : xTab (Unit × xHt) := []
def xq_0_5 : xTab (Unit × xHt) := []
def xq_0_6 : xTab (Value × xHt) := [(61, [(7, (.int 2147483647, [(4, 157)])), (8, (.int 790386105, [(4, 161)])), (55, (.ref 69, [(0, 0)])), (60, (.ref 71, [(1, 0)]))]),
  (124, [(77, (.ref 73, [(2, 0)])), (86, (.ref 75, [(3, 0)])), (121, (.long 10, [(6, 156)])), (123, (.long 48, [(6, 157)]))])]
def xq_0_7 : xTab ((Nat × Nat) × xHt) := [(30, [(9, ((183, 0), [(4, 168), (1, 15), (4, 171), (4, 169), (4, 170)])), (15, ((187, 1), [(4, 178), (1, 15), (4, 181), (4, 179), (4, 180)])), (19, ((166, 5), [(4, 216), (1, 1), (4, 219), (4, 217), (4, 218)])), (25, ((167, 1), [(4, 224), (1, 1), (4, 227), (4, 225), (4, 226)])), (29, ((4, 2), [(4, 165), (1, 0), (4, 167), (4, 166)]))]),
  (63, [(37, ((168, 1), [(6, 138), (1, 1), (6, 141), (6, 139), (6, 140)])), (44, ((178, 3), [(4, 117), (1, 1), (4, 120), (4, 118), (4, 119)])), (54, ((158, 0), [(1, 35), (1, 1), (1, 37), (1, 36)])), (57, ((6, 3), [(6, 135), (1, 0), (6, 137), (6, 136)])), (62, ((2, 2), [(4, 158), (1, 0), (4, 160), (4, 159)]))]),
  (84, [(66, ((1, 2), [(4, 154), (1, 0), (4, 156), (4, 155)])), (70, ((169, 1), [(3, 1), (1, 1), (3, 4), (3, 2), (3, 3)])), (76, ((197, 0), [(6, 160), (1, 25), (6, 162), (6, 161)])), (79, ((199, 1), [(6, 188), (1, 25), (6, 191), (6, 189), (6, 190)])), (83, ((208, 1), [(7, 45), (1, 25), (7, 48), (7, 46), (7, 47)]))]),
  (103, [(88, ((212, 0), [(7, 70), (1, 25), (7, 73), (7, 71), (7, 72)])), (92, ((3, 2), [(4, 162), (1, 0), (4, 164), (4, 163)])), (95, ((175, 0), [(3, 122), (1, 1), (3, 125), (3, 123), (3, 124)])), (98, ((165, 0), [(4, 142), (1, 1), (4, 145), (4, 143), (4, 144)])), (102, ((176, 1), [(4, 113), (1, 1), (4, 116), (4, 114), (4, 115)]))]),
  (119, [(105, ((181, 1), [(4, 130), (1, 1), (4, 133), (4, 131), (4, 132)])), (109, ((7, 5), [(6, 153), (1, 0), (6, 155), (6, 154)])), (113, ((180, 1), [(4, 126), (1, 1), (4, 129), (4, 127), (4, 128)])), (116, ((171, 2), [(3, 99), (1, 1), (3, 102), (3, 100), (3, 101)])), (118, ((182, 1), [(4, 138), (1, 1), (4, 141), (4, 139), (4, 140)]))])]
def xq_0_8 : xTab (Nat × (List String × Nat)) := []
def xq_0_9 : xTab (Nat × xHt) := []
def xq_0_10 : xTab (Nat × xHt) := []
def xq_0_11 : xTab ((Nat × Nat × Nat) × xHt) := []
def xq_0 : xPool := ("ReportMillLaw", xq_0_0, xq_0_1, xq_0_2, xq_0_3, xq_0_4, xq_0_5, xq_0_6, xq_0_7, xq_0_8, xq_0_9, xq_0_10, xq_0_11)
def xq_1_0 : xTab ((Nat × Nat) × xHt) := []
def xq_1_1 : xTab ((Nat × Nat × Bool) × xHt) := []
def xq_1_2 : xTab (Value × xHt) := []
def xq_1_3 : xTab (Nat × xHt) := []
def xq_1_4 : xTab (Unit × xHt) := []
def xq_1_5 : xTab (Unit × xHt) := []
def xq_1_6 : xTab (Value × xHt) := []
def xq_1_7 : xTab ((Nat × Nat) × xHt) := [(26, [(9, ((184, 0), [(4, 168), (1, 15), (4, 171), (4, 169), (4, 170)])), (15, ((188, 1), [(4, 178), (1, 15), (4, 181), (4, 179), (4, 180)])), (19, ((166, 5), [(4, 216), (1, 1), (4, 219), (4, 217), (4, 218)])), (25, ((167, 1), [(4, 224), (1, 1), (4, 227), (4, 225), (4, 226)]))]),
  (35, [(29, ((5, 2), [(4, 165), (1, 0), (4, 167), (4, 166)])), (34, ((160, 0), [(4, 228), (1, 1), (4, 231), (4, 229), (4, 230)]))])]
def xq_1_8 : xTab (Nat × (List String × Nat)) := []
def xq_1_9 : xTab (Nat × xHt) := []
def xq_1_10 : xTab (Nat × xHt) := []
def xq_1_11 : xTab ((Nat × Nat × Nat) × xHt) := []
def xq_1 : xPool := ("ReportMillLaw", xq_1_0, xq_1_1, xq_1_2, xq_1_3, xq_1_4, xq_1_5, xq_1_6, xq_1_7, xq_1_8, xq_1_9, xq_1_10, xq_1_11)
def xq_2_0 : xTab ((Nat × Nat) × xHt) := [(29, [(9, ((0, 3), [(1, 190)])), (15, ((0, 4), [(1, 192)])), (25, ((0, 0), [(1, 180)])), (28, ((0, 1), [(1, 183)]))]),
  (37, [(32, ((0, 2), [(1, 186)])), (36, ((0, 5), [(1, 194)]))])]
def xq_2_1 : xTab ((Nat × Nat × Bool) × xHt) := [(29, [(9, ((0, 3, true), [(1, 190)])), (15, ((0, 4, true), [(1, 192)])), (25, ((0, 0, true), [(1, 180)])), (28, ((0, 1, true), [(1, 183)]))]),
  (37, [(32, ((0, 2, false), [(1, 186)])), (36, ((0, 5, false), [(1, 194)]))])]
def xq_2_2 : xTab (Value × xHt) := []
def xq_2_3 : xTab (Nat × xHt) := []
def xq_2_4 : xTab (Unit × xHt) := []
def xq_2_5 : xTab (Unit × xHt) := [(4, [(3, ((), [(1, 176), (1, 39), (1, 40)]))])]
def xq_2_6 : xTab (Value × xHt) := []
def xq_2_7 : xTab ((Nat × Nat) × xHt) := [(40, [(39, ((143, 1), [(5, 162), (1, 3), (5, 15), (5, 13), (5, 14)]))])]
def xq_2_8 : xTab (Nat × (List String × Nat)) := []
def xq_2_9 : xTab (Nat × xHt) := []
def xq_2_10 : xTab (Nat × xHt) := [(20, [(19, (0, [(1, 177), (1, 178), (1, 9), (1, 179)]))])]
def xq_2_11 : xTab ((Nat × Nat × Nat) × xHt) := []
def xq_2 : xPool := ("ReportMill$Code", xq_2_0, xq_2_1, xq_2_2, xq_2_3, xq_2_4, xq_2_5, xq_2_6, xq_2_7, xq_2_8, xq_2_9, xq_2_10, xq_2_11)
def xq_3_0 : xTab ((Nat × Nat) × xHt) := [(38, [(9, ((1, 0), [(2, 89)])), (15, ((1, 1), [(2, 90)])), (19, ((1, 2), [(2, 91)])), (23, ((1, 3), [(2, 92)])), (37, ((9, 8), [(1, 90)]))]),
  (128, [(41, ((100, 2), [(7, 141)])), (85, ((6, 3), [(1, 219)])), (88, ((9, 1), [(1, 81)])), (95, ((9, 11), [(1, 98)])), (127, ((6, 1), [(1, 214)]))]),
  (156, [(130, ((9, 9), [(1, 93)])), (140, ((6, 2), [(1, 216)])), (143, ((6, 4), [(1, 222)])), (152, ((6, 5), [(1, 225)])), (155, ((6, 6), [(1, 228)]))]),
  (190, [(159, ((6, 7), [(1, 232)])), (165, ((6, 8), [(1, 235)])), (168, ((6, 9), [(1, 239)])), (185, ((6, 11), [(2, 8)])), (189, ((0, 2), [(1, 187)]))]),
  (303, [(205, ((6, 10), [(2, 3)])), (271, ((6, 13), [(2, 13)])), (302, ((9, 10), [(1, 97)]))])]
def xq_3_1 : xTab ((Nat × Nat × Bool) × xHt) := [(24, [(9, ((1, 0, true), [(2, 89)])), (15, ((1, 1, true), [(2, 90)])), (19, ((1, 2, true), [(2, 91)])), (23, ((1, 3, true), [(2, 92)]))]),
  (141, [(85, ((6, 3, false), [(1, 219)])), (98, ((6, 0, false), [(1, 211)])), (127, ((6, 1, false), [(1, 214)])), (140, ((6, 2, false), [(1, 216)]))]),
  (160, [(143, ((6, 4, false), [(1, 222)])), (159, ((6, 7, false), [(1, 232)]))])]
def xq_3_2 : xTab (Value × xHt) := [(147, [(50, (.ref 13, [(6, 54), (13, 0)])), (65, (.ref 21, [(6, 115), (21, 0)])), (76, (.ref 65, [(6, 133), (65, 0)])), (102, (.ref 68, [(5, 71), (68, 0)])), (146, (.ref 2, [(5, 102), (2, 0)]))]),
  (221, [(182, (.ref 50, [(5, 137), (50, 0)])), (198, (.ref 4, [(6, 22), (4, 0)])), (211, (.ref 6, [(6, 38), (6, 0)])), (214, (.ref 12, [(6, 40), (12, 0)])), (220, (.ref 7, [(6, 52), (7, 0)]))]),
  (250, [(223, (.ref 0, [(6, 46), (0, 0)])), (233, (.ref 17, [(6, 67), (17, 0)])), (236, (.ref 19, [(6, 69), (19, 0)])), (246, (.ref 22, [(6, 80), (22, 0)])), (249, (.ref 24, [(6, 81), (24, 0)]))]),
  (287, [(268, (.ref 29, [(6, 125), (29, 0)])), (274, (.ref 30, [(6, 127), (30, 0)])), (277, (.ref 23, [(6, 86), (23, 0)])), (283, (.ref 31, [(6, 93), (31, 0)])), (286, (.ref 32, [(6, 94), (32, 0)]))]),
  (310, [(292, (.ref 49, [(6, 99), (49, 0)])), (295, (.ref 33, [(6, 105), (33, 0)])), (306, (.ref 63, [(5, 89), (63, 0)])), (309, (.ref 62, [(5, 112), (62, 0)]))])]
def xq_3_3 : xTab (Nat × xHt) := []
def xq_3_4 : xTab (Unit × xHt) := []
def xq_3_5 : xTab (Unit × xHt) := [(4, [(3, ((), [(2, 88), (1, 39), (1, 40)]))])]
def xq_3_6 : xTab (Value × xHt) := []
def xq_3_7 : xTab ((Nat × Nat) × xHt) := [(62, [(27, ((98, 0), [(5, 0), (1, 6), (5, 3), (5, 1), (5, 2)])), (32, ((142, 0), [(5, 8), (1, 3), (5, 11), (5, 9), (5, 10)])), (47, ((27, 0), [(5, 67), (1, 11), (5, 70), (5, 69), (0, 33)])), (53, ((100, 3), [(6, 56), (1, 6), (6, 59), (6, 57), (6, 58)])), (57, ((39, 1), [(6, 60), (1, 11), (6, 63), (6, 62), (0, 60)])), (61, ((41, 2), [(6, 76), (1, 11), (6, 79), (6, 78), (0, 61)]))]),
  (109, [(68, ((30, 1), [(5, 90), (1, 11), (5, 93), (5, 92), (0, 36)])), (72, ((106, 1), [(6, 129), (1, 6), (6, 132), (6, 130), (6, 131)])), (79, ((155, 0), [(5, 94), (1, 3), (5, 97), (5, 95), (5, 96)])), (82, ((107, 1), [(6, 134), (1, 6), (3, 137), (3, 135), (3, 136)])), (91, ((153, 2), [(5, 77), (1, 3), (5, 80), (5, 78), (5, 79)])), (108, ((318, 0), [(5, 72), (1, 4), (4, 75), (4, 74), (4, 73), (4, 71), (99, 14)]))]),
  (134, [(112, ((28, 0), [(5, 73), (1, 11), (5, 76), (5, 75), (0, 34)])), (115, ((31, 0), [(5, 98), (1, 11), (5, 101), (5, 100), (0, 37)])), (118, ((33, 0), [(5, 113), (1, 11), (5, 116), (5, 115), (0, 39)])), (121, ((34, 0), [(5, 121), (1, 11), (5, 124), (5, 123), (0, 40)])), (124, ((36, 0), [(6, 28), (1, 11), (6, 31), (6, 30), (0, 57)])), (133, ((154, 0), [(5, 81), (1, 3), (5, 84), (5, 82), (5, 83)]))]),
  (195, [(136, ((29, 2), [(5, 85), (1, 11), (5, 88), (5, 87), (0, 35)])), (149, ((32, 0), [(5, 104), (1, 11), (5, 107), (5, 106), (0, 38)])), (162, ((99, 1), [(5, 117), (1, 6), (5, 120), (5, 118), (5, 119)])), (172, ((47, 0), [(5, 125), (1, 7), (5, 128), (5, 126), (5, 127)])), (178, ((35, 0), [(5, 129), (1, 11), (5, 132), (5, 131), (0, 41)])), (194, ((51, 3), [(5, 139), (1, 10), (5, 142), (5, 140), (5, 141)]))]),
  (240, [(201, ((49, 5), [(6, 24), (1, 7), (6, 27), (6, 25), (6, 26)])), (208, ((316, 0), [(6, 32), (1, 5), (6, 35), (6, 33), (6, 34)])), (217, ((37, 0), [(6, 42), (1, 11), (6, 45), (6, 44), (0, 58)])), (226, ((38, 0), [(6, 48), (1, 11), (6, 51), (6, 50), (0, 59)])), (229, ((40, 1), [(6, 64), (1, 11), (6, 66), (6, 65)])), (239, ((101, 1), [(6, 71), (1, 6), (3, 145), (3, 143), (3, 144)]))]),
  (266, [(243, ((102, 2), [(6, 72), (1, 6), (6, 75), (6, 73), (6, 74)])), (252, ((42, 1), [(6, 82), (1, 11), (6, 85), (6, 84), (0, 62)])), (255, ((103, 2), [(6, 101), (1, 6), (6, 104), (6, 102), (6, 103)])), (258, ((44, 2), [(6, 111), (1, 11), (6, 114), (6, 113), (0, 64)])), (261, ((45, 3), [(6, 117), (1, 11), (6, 120), (6, 119), (0, 65)])), (265, ((105, 2), [(6, 121), (1, 6), (6, 124), (6, 122), (6, 123)]))]),
  (319, [(280, ((317, 0), [(6, 87), (1, 5), (6, 90), (6, 88), (6, 89)])), (289, ((43, 1), [(6, 95), (1, 11), (6, 98), (6, 97), (0, 63)])), (298, ((104, 2), [(6, 107), (1, 6), (6, 110), (6, 108), (6, 109)])), (312, ((132, 1), [(5, 108), (1, 2), (5, 111), (5, 109), (5, 110)])), (318, ((48, 1), [(5, 133), (1, 7), (5, 136), (5, 134), (5, 135)]))])]
def xq_3_8 : xTab (Nat × (List String × Nat)) := []
def xq_3_9 : xTab (Nat × xHt) := []
def xq_3_10 : xTab (Nat × xHt) := []
def xq_3_11 : xTab ((Nat × Nat × Nat) × xHt) := []
def xq_3 : xPool := ("ReportMill$Compiler", xq_3_0, xq_3_1, xq_3_2, xq_3_3, xq_3_4, xq_3_5, xq_3_6, xq_3_7, xq_3_8, xq_3_9, xq_3_10, xq_3_11)
def xq_4_0 : xTab ((Nat × Nat) × xHt) := [(24, [(9, ((2, 1), [(1, 148)])), (13, ((2, 2), [(1, 149)])), (17, ((2, 3), [(1, 152)])), (23, ((2, 4), [(1, 154)]))]),
  (31, [(27, ((2, 5), [(1, 156)])), (30, ((2, 0), [(1, 144)]))])]
def xq_4_1 : xTab ((Nat × Nat × Bool) × xHt) := [(24, [(9, ((2, 1, true), [(1, 148)])), (13, ((2, 2, true), [(1, 149)])), (17, ((2, 3, true), [(1, 152)])), (23, ((2, 4, true), [(1, 154)]))]),
  (31, [(27, ((2, 5, true), [(1, 156)])), (30, ((2, 0, false), [(1, 144)]))])]
def xq_4_2 : xTab (Value × xHt) := []
def xq_4_3 : xTab (Nat × xHt) := []
def xq_4_4 : xTab (Unit × xHt) := [(22, [(21, ((), [(1, 143)]))])]
def xq_4_5 : xTab (Unit × xHt) := [(2, [(1, ((), [(1, 142), (1, 39), (1, 40)]))])]
def xq_4_6 : xTab (Value × xHt) := []
def xq_4_7 : xTab ((Nat × Nat) × xHt) := []
def xq_4_8 : xTab (Nat × (List String × Nat)) := []
def xq_4_9 : xTab (Nat × xHt) := []
def xq_4_10 : xTab (Nat × xHt) := []
def xq_4_11 : xTab ((Nat × Nat × Nat) × xHt) := []
def xq_4 : xPool := ("ReportMill$Definitions", xq_4_0, xq_4_1, xq_4_2, xq_4_3, xq_4_4, xq_4_5, xq_4_6, xq_4_7, xq_4_8, xq_4_9, xq_4_10, xq_4_11)
def xq_5_0 : xTab ((Nat × Nat) × xHt) := [(24, [(9, ((3, 0), [(2, 67)])), (15, ((3, 1), [(2, 68)])), (19, ((3, 2), [(2, 69)])), (23, ((6, 11), [(2, 6)]))]),
  (59, [(29, ((3, 3), [(2, 70)])), (30, ((3, 4), [(2, 71)])), (54, ((9, 8), [(1, 91)])), (58, ((100, 2), [(7, 143)]))]),
  (154, [(73, ((9, 9), [(1, 92)])), (92, ((100, 3), [(7, 144)])), (98, ((9, 10), [(1, 96)])), (153, ((6, 9), [(2, 0)]))]),
  (165, [(160, ((2, 2), [(1, 151)])), (164, ((6, 10), [(2, 4)]))])]
def xq_5_1 : xTab ((Nat × Nat × Bool) × xHt) := [(30, [(9, ((3, 0, true), [(2, 67)])), (15, ((3, 1, true), [(2, 68)])), (19, ((3, 2, true), [(2, 69)])), (29, ((3, 3, false), [(2, 70)]))]),
  (35, [(30, ((3, 4, false), [(2, 71)])), (34, ((9, 7, false), [(1, 87)]))])]
def xq_5_2 : xTab (Value × xHt) := [(188, [(86, (.ref 56, [(6, 11), (56, 0)])), (102, (.ref 68, [(5, 151), (68, 0)])), (136, (.ref 45, [(5, 233), (45, 0)])), (187, (.ref 46, [(5, 208), (46, 0)]))]),
  (200, [(190, (.ref 37, [(5, 210), (37, 0)])), (193, (.ref 38, [(5, 212), (38, 0)])), (196, (.ref 39, [(5, 214), (39, 0)])), (199, (.ref 48, [(5, 216), (48, 0)]))]),
  (215, [(205, (.ref 40, [(5, 225), (40, 0)])), (208, (.ref 41, [(5, 227), (41, 0)])), (211, (.ref 8, [(5, 221), (8, 0)])), (214, (.ref 9, [(5, 223), (9, 0)]))]),
  (221, [(217, (.ref 66, [(5, 180), (66, 0)])), (220, (.ref 47, [(5, 202), (47, 0)]))])]
def xq_5_3 : xTab (Nat × xHt) := []
def xq_5_4 : xTab (Unit × xHt) := []
def xq_5_5 : xTab (Unit × xHt) := [(4, [(3, ((), [(2, 66), (1, 39), (1, 40)]))])]
def xq_5_6 : xTab (Value × xHt) := [(44, [(43, (.int 1000000, [(6, 21)]))])]
def xq_5_7 : xTab ((Nat × Nat) × xHt) := [(67, [(39, ((52, 2), [(5, 143), (1, 10), (5, 146), (5, 145), (0, 42)])), (46, ((20, 2), [(5, 154), (1, 8), (5, 157), (5, 155), (5, 156)])), (50, ((53, 1), [(5, 147), (1, 10), (5, 150), (5, 149), (0, 43)])), (63, ((63, 2), [(5, 235), (1, 10), (5, 238), (5, 237), (0, 52)])), (66, ((64, 2), [(6, 3), (1, 10), (6, 6), (6, 5), (0, 53)]))]),
  (90, [(69, ((65, 3), [(6, 7), (1, 10), (6, 10), (6, 9), (0, 54)])), (76, ((154, 0), [(5, 153), (1, 3), (5, 84), (5, 82), (5, 83)])), (79, ((24, 1), [(5, 239), (1, 8), (6, 2), (6, 0), (6, 1)])), (83, ((57, 3), [(5, 190), (1, 10), (5, 193), (5, 192), (0, 47)])), (89, ((66, 1), [(6, 13), (1, 10), (6, 16), (6, 15), (0, 55)]))]),
  (121, [(95, ((67, 3), [(6, 17), (1, 10), (6, 20), (6, 19), (0, 56)])), (108, ((318, 0), [(5, 152), (1, 4), (4, 75), (4, 74), (4, 73), (4, 71), (99, 14)])), (112, ((21, 3), [(5, 158), (1, 8), (5, 161), (5, 159), (5, 160)])), (116, ((54, 2), [(5, 163), (1, 10), (5, 166), (5, 165), (0, 44)])), (120, ((55, 2), [(5, 171), (1, 10), (5, 174), (5, 173), (0, 45)]))]),
  (140, [(123, ((58, 1), [(5, 194), (1, 10), (5, 197), (5, 196), (0, 48)])), (126, ((60, 1), [(5, 204), (1, 10), (5, 207), (5, 206), (0, 50)])), (129, ((62, 1), [(5, 229), (1, 10), (5, 232), (5, 231), (0, 51)])), (133, ((155, 0), [(5, 179), (1, 3), (5, 97), (5, 95), (5, 96)])), (139, ((153, 2), [(5, 170), (1, 3), (5, 80), (5, 78), (5, 79)]))]),
  (171, [(143, ((132, 1), [(5, 167), (1, 2), (5, 111), (5, 109), (5, 110)])), (149, ((133, 1), [(5, 168), (1, 2), (3, 164), (3, 162), (3, 163)])), (157, ((48, 1), [(5, 169), (1, 7), (5, 136), (5, 134), (5, 135)])), (167, ((56, 1), [(5, 175), (1, 10), (5, 178), (5, 177), (0, 46)])), (170, ((22, 1), [(5, 181), (1, 8), (5, 184), (5, 182), (5, 183)]))]),
  (203, [(174, ((69, 3), [(5, 185), (1, 12), (4, 23), (4, 22)])), (180, ((23, 2), [(5, 186), (1, 8), (5, 189), (5, 187), (5, 188)])), (184, ((59, 0), [(5, 198), (1, 10), (5, 201), (5, 200), (0, 49)])), (202, ((61, 1), [(5, 218), (1, 10), (5, 220), (5, 219)]))])]
def xq_5_8 : xTab (Nat × (List String × Nat)) := []
def xq_5_9 : xTab (Nat × xHt) := []
def xq_5_10 : xTab (Nat × xHt) := []
def xq_5_11 : xTab ((Nat × Nat × Nat) × xHt) := []
def xq_5 : xPool := ("ReportMill$Expressions", xq_5_0, xq_5_1, xq_5_2, xq_5_3, xq_5_4, xq_5_5, xq_5_6, xq_5_7, xq_5_8, xq_5_9, xq_5_10, xq_5_11)
def xq_6_0 : xTab ((Nat × Nat) × xHt) := [(26, [(13, ((4, 1), [(2, 109)])), (17, ((4, 2), [(2, 111)])), (21, ((4, 3), [(2, 113)])), (25, ((4, 4), [(2, 115)]))]),
  (67, [(29, ((4, 0), [(2, 108)])), (33, ((8, 0), [(1, 48)])), (63, ((0, 2), [(1, 188)])), (66, ((0, 0), [(1, 181)]))]),
  (120, [(69, ((0, 1), [(1, 184)])), (113, ((0, 5), [(1, 195)])), (116, ((0, 4), [(1, 193)])), (119, ((0, 3), [(1, 191)]))])]
def xq_6_1 : xTab ((Nat × Nat × Bool) × xHt) := [(26, [(13, ((4, 1, true), [(2, 109)])), (17, ((4, 2, true), [(2, 111)])), (21, ((4, 3, true), [(2, 113)])), (25, ((4, 4, true), [(2, 115)]))]),
  (30, [(29, ((4, 0, true), [(2, 108)]))])]
def xq_6_2 : xTab (Value × xHt) := []
def xq_6_3 : xTab (Nat × xHt) := []
def xq_6_4 : xTab (Unit × xHt) := []
def xq_6_5 : xTab (Unit × xHt) := [(8, [(7, ((), [(2, 107), (1, 39), (1, 40)]))])]
def xq_6_6 : xTab (Value × xHt) := [(125, [(122, (.long 10, [(4, 15)])), (124, (.long 48, [(4, 16)]))])]
def xq_6_7 : xTab ((Nat × Nat) × xHt) := [(49, [(37, ((134, 2), [(3, 160), (1, 2), (3, 121), (3, 119), (3, 120)])), (41, ((133, 1), [(3, 161), (1, 2), (3, 164), (3, 162), (3, 163)])), (44, ((73, 2), [(3, 165), (1, 12), (3, 168), (3, 167), (0, 2)])), (48, ((71, 2), [(3, 173), (1, 12), (3, 176), (3, 174), (3, 175)]))]),
  (77, [(51, ((85, 2), [(4, 17), (1, 12), (4, 20), (4, 19), (0, 14)])), (55, ((319, 2), [(4, 112), (1, 31), (3, 203), (3, 202)])), (72, ((76, 4), [(3, 220), (1, 12), (3, 223), (3, 222), (0, 8)])), (76, ((79, 1), [(3, 232), (1, 12), (3, 234), (3, 233)]))]),
  (92, [(80, ((80, 2), [(3, 235), (1, 12), (3, 238), (3, 237), (0, 10)])), (84, ((77, 3), [(3, 224), (1, 12), (3, 227), (3, 226), (0, 9)])), (88, ((78, 2), [(3, 228), (1, 12), (3, 231), (3, 229), (3, 230)])), (91, ((81, 1), [(3, 239), (1, 12), (4, 2), (4, 1), (0, 11)]))]),
  (107, [(95, ((82, 3), [(4, 3), (1, 12), (4, 6), (4, 5), (0, 12)])), (99, ((83, 2), [(4, 7), (1, 12), (4, 10), (4, 9), (0, 13)])), (102, ((84, 2), [(4, 11), (1, 12), (4, 14), (4, 12), (4, 13)])), (106, ((69, 3), [(4, 21), (1, 12), (4, 23), (4, 22)]))]),
  (111, [(110, ((74, 2), [(3, 169), (1, 12), (3, 172), (3, 170), (3, 171)]))])]
def xq_6_8 : xTab (Nat × (List String × Nat)) := []
def xq_6_9 : xTab (Nat × xHt) := []
def xq_6_10 : xTab (Nat × xHt) := []
def xq_6_11 : xTab ((Nat × Nat × Nat) × xHt) := []
def xq_6 : xPool := ("ReportMill$Machine", xq_6_0, xq_6_1, xq_6_2, xq_6_3, xq_6_4, xq_6_5, xq_6_6, xq_6_7, xq_6_8, xq_6_9, xq_6_10, xq_6_11)
def xq_7_0 : xTab ((Nat × Nat) × xHt) := [(22, [(10, ((5, 3), [(2, 141)])), (14, ((5, 0), [(2, 134)])), (18, ((5, 1), [(2, 136)])), (21, ((5, 2), [(2, 138)]))])]
def xq_7_1 : xTab ((Nat × Nat × Bool) × xHt) := [(22, [(10, ((5, 3, true), [(2, 141)])), (14, ((5, 0, false), [(2, 134)])), (18, ((5, 1, false), [(2, 136)])), (21, ((5, 2, false), [(2, 138)]))])]
def xq_7_2 : xTab (Value × xHt) := []
def xq_7_3 : xTab (Nat × xHt) := []
def xq_7_4 : xTab (Unit × xHt) := []
def xq_7_5 : xTab (Unit × xHt) := [(4, [(3, ((), [(2, 132), (1, 39), (1, 40)]))])]
def xq_7_6 : xTab (Value × xHt) := [(33, [(9, (.int 72000, [(2, 133)])), (32, (.long 31, [(4, 152)]))])]
def xq_7_7 : xTab ((Nat × Nat) × xHt) := [(35, [(24, ((92, 3), [(4, 48), (1, 13), (4, 51), (4, 50), (0, 16)])), (28, ((95, 2), [(4, 44), (1, 13), (4, 47), (4, 45), (4, 46)])), (34, ((91, 3), [(4, 153), (1, 13), (4, 125), (4, 123), (4, 124)]))])]
def xq_7_8 : xTab (Nat × (List String × Nat)) := []
def xq_7_9 : xTab (Nat × xHt) := []
def xq_7_10 : xTab (Nat × xHt) := []
def xq_7_11 : xTab ((Nat × Nat × Nat) × xHt) := []
def xq_7 : xPool := ("ReportMill$Paper", xq_7_0, xq_7_1, xq_7_2, xq_7_3, xq_7_4, xq_7_5, xq_7_6, xq_7_7, xq_7_8, xq_7_9, xq_7_10, xq_7_11)
def xq_8_0 : xTab ((Nat × Nat) × xHt) := [(38, [(19, ((6, 8), [(1, 234)])), (25, ((6, 9), [(1, 237)])), (29, ((6, 10), [(2, 1)])), (37, ((6, 11), [(2, 7)]))]),
  (54, [(41, ((6, 12), [(2, 11)])), (46, ((6, 14), [(2, 14)])), (50, ((6, 15), [(2, 16)])), (53, ((6, 16), [(2, 18)]))]),
  (86, [(56, ((6, 17), [(2, 20)])), (76, ((6, 7), [(1, 230)])), (85, ((6, 13), [(2, 12)]))])]
def xq_8_1 : xTab ((Nat × Nat × Bool) × xHt) := [(26, [(11, ((6, 5, true), [(1, 224)])), (15, ((6, 6, true), [(1, 227)])), (19, ((6, 8, true), [(1, 234)])), (25, ((6, 9, true), [(1, 237)]))]),
  (47, [(29, ((6, 10, true), [(2, 1)])), (37, ((6, 11, true), [(2, 7)])), (41, ((6, 12, true), [(2, 11)])), (46, ((6, 14, true), [(2, 14)]))]),
  (60, [(50, ((6, 15, true), [(2, 16)])), (53, ((6, 16, true), [(2, 18)])), (56, ((6, 17, true), [(2, 20)])), (59, ((6, 0, false), [(1, 210)]))]),
  (74, [(63, ((6, 1, false), [(1, 213)])), (66, ((6, 2, false), [(1, 215)])), (70, ((6, 3, false), [(1, 218)])), (73, ((6, 4, false), [(1, 221)]))]),
  (86, [(76, ((6, 7, false), [(1, 230)])), (79, ((2, 0, false), [(1, 145)])), (85, ((6, 13, false), [(2, 12)]))])]
def xq_8_2 : xTab (Value × xHt) := [(100, [(99, (.ref 24, [(3, 150), (24, 0)]))])]
def xq_8_3 : xTab (Nat × xHt) := [(33, [(22, (2, [(1, 137), (1, 138), (1, 7)])), (32, (0, [(1, 171), (1, 172), (1, 8)]))])]
def xq_8_4 : xTab (Unit × xHt) := [(45, [(44, ((), [(1, 209)]))])]
def xq_8_5 : xTab (Unit × xHt) := [(4, [(3, ((), [(1, 136), (1, 39), (1, 40)]))])]
def xq_8_6 : xTab (Value × xHt) := []
def xq_8_7 : xTab ((Nat × Nat) × xHt) := [(89, [(24, ((46, 0), [(99, 3), (1, 7), (1, 141), (1, 140)])), (34, ((18, 1), [(1, 173), (1, 8), (1, 175), (1, 174)])), (82, ((19, 0), [(5, 4), (1, 8), (5, 7), (5, 5), (5, 6)])), (88, ((101, 1), [(3, 142), (1, 6), (3, 145), (3, 143), (3, 144)]))]),
  (97, [(92, ((108, 1), [(3, 138), (1, 6), (3, 141), (3, 139), (3, 140)])), (96, ((109, 1), [(3, 146), (1, 6), (3, 149), (3, 147), (3, 148)]))])]
def xq_8_8 : xTab (Nat × (List String × Nat)) := []
def xq_8_9 : xTab (Nat × xHt) := []
def xq_8_10 : xTab (Nat × xHt) := []
def xq_8_11 : xTab ((Nat × Nat × Nat) × xHt) := []
def xq_8 : xPool := ("ReportMill$Program", xq_8_0, xq_8_1, xq_8_2, xq_8_3, xq_8_4, xq_8_5, xq_8_6, xq_8_7, xq_8_8, xq_8_9, xq_8_10, xq_8_11)
def xq_9_0 : xTab ((Nat × Nat) × xHt) := [(37, [(11, ((7, 9), [(2, 171)])), (19, ((7, 10), [(2, 173)])), (24, ((7, 11), [(2, 175)])), (28, ((7, 0), [(2, 157)])), (32, ((7, 1), [(2, 158)])), (36, ((7, 2), [(2, 159)]))]),
  (74, [(40, ((7, 3), [(2, 160)])), (51, ((7, 6), [(2, 165)])), (54, ((7, 7), [(2, 167)])), (57, ((7, 8), [(2, 169)])), (60, ((5, 2), [(2, 139)])), (73, ((6, 7), [(1, 231)]))]),
  (134, [(102, ((7, 14), [(2, 178)])), (111, ((7, 12), [(2, 176)])), (114, ((6, 3), [(1, 220)])), (117, ((7, 13), [(2, 177)])), (120, ((6, 2), [(1, 217)])), (133, ((6, 9), [(1, 238)]))]),
  (171, [(137, ((2, 0), [(1, 146)])), (140, ((2, 2), [(1, 150)])), (147, ((6, 10), [(2, 2)])), (160, ((6, 4), [(1, 223)])), (163, ((6, 5), [(1, 226)])), (170, ((6, 6), [(1, 229)]))]),
  (212, [(173, ((6, 8), [(1, 236)])), (176, ((6, 11), [(2, 9)])), (180, ((2, 3), [(1, 153)])), (190, ((2, 5), [(1, 157)])), (193, ((2, 4), [(1, 155)])), (211, ((4, 2), [(2, 112)]))]),
  (267, [(222, ((7, 15), [(2, 179)])), (225, ((6, 17), [(2, 21)])), (228, ((6, 15), [(2, 17)])), (231, ((6, 14), [(2, 15)])), (254, ((6, 16), [(2, 19)])), (266, ((4, 1), [(2, 110)]))]),
  (273, [(272, ((4, 3), [(2, 114)]))])]
def xq_9_1 : xTab ((Nat × Nat × Bool) × xHt) := [(29, [(11, ((7, 9, true), [(2, 171)])), (19, ((7, 10, true), [(2, 173)])), (24, ((7, 11, true), [(2, 175)])), (28, ((7, 0, true), [(2, 157)]))]),
  (45, [(32, ((7, 1, true), [(2, 158)])), (36, ((7, 2, true), [(2, 159)])), (40, ((7, 3, true), [(2, 160)])), (44, ((7, 4, false), [(2, 161)]))]),
  (58, [(48, ((7, 5, false), [(2, 163)])), (51, ((7, 6, false), [(2, 165)])), (54, ((7, 7, false), [(2, 167)])), (57, ((7, 8, false), [(2, 169)]))]),
  (118, [(60, ((5, 2, false), [(2, 139)])), (102, ((7, 14, false), [(2, 178)])), (111, ((7, 12, false), [(2, 176)])), (117, ((7, 13, false), [(2, 177)]))]),
  (223, [(222, ((7, 15, false), [(2, 179)]))])]
def xq_9_2 : xTab (Value × xHt) := [(264, [(201, (.ref 68, [(4, 68), (68, 0)])), (234, (.ref 27, [(4, 62), (27, 0)])), (257, (.ref 23, [(3, 214), (23, 0)])), (263, (.ref 22, [(4, 52), (22, 0)]))]),
  (289, [(285, (.ref 31, [(4, 32), (31, 0)])), (288, (.ref 32, [(4, 34), (32, 0)]))])]
def xq_9_3 : xTab (Nat × xHt) := []
def xq_9_4 : xTab (Unit × xHt) := []
def xq_9_5 : xTab (Unit × xHt) := [(4, [(3, ((), [(2, 156), (1, 39), (1, 40)]))])]
def xq_9_6 : xTab (Value × xHt) := []
def xq_9_7 : xTab ((Nat × Nat) × xHt) := [(87, [(65, ((113, 1), [(3, 130), (1, 14), (3, 133), (3, 132), (0, 1)])), (69, ((131, 0), [(3, 187), (1, 2), (3, 8), (3, 6), (3, 7)])), (76, ((117, 0), [(3, 204), (1, 14), (3, 207), (3, 206), (0, 6)])), (79, ((108, 1), [(3, 208), (1, 6), (3, 141), (3, 139), (3, 140)])), (83, ((109, 1), [(3, 209), (1, 6), (3, 149), (3, 147), (3, 148)])), (86, ((121, 3), [(4, 58), (1, 14), (4, 61), (4, 60), (0, 17)]))]),
  (109, [(90, ((125, 1), [(4, 87), (1, 14), (4, 90), (4, 89), (0, 21)])), (93, ((126, 1), [(4, 91), (1, 14), (4, 94), (4, 93), (0, 22)])), (96, ((127, 1), [(4, 96), (1, 14), (4, 99), (4, 98), (0, 23)])), (99, ((128, 0), [(4, 100), (1, 14), (4, 103), (4, 102), (0, 24)])), (105, ((118, 3), [(3, 210), (1, 14), (3, 213), (3, 212), (0, 7)])), (108, ((107, 1), [(3, 134), (1, 6), (3, 137), (3, 135), (3, 136)]))]),
  (154, [(123, ((93, 2), [(3, 152), (1, 13), (3, 155), (3, 153), (3, 154)])), (126, ((72, 1), [(3, 156), (1, 12), (3, 159), (3, 157), (3, 158)])), (129, ((71, 2), [(3, 177), (1, 12), (3, 176), (3, 174), (3, 175)])), (143, ((74, 2), [(3, 178), (1, 12), (3, 172), (3, 170), (3, 171)])), (150, ((114, 1), [(3, 179), (1, 14), (3, 182), (3, 181), (0, 3)])), (153, ((115, 0), [(3, 183), (1, 14), (3, 186), (3, 185), (0, 4)]))]),
  (207, [(156, ((116, 2), [(3, 188), (1, 14), (3, 191), (3, 190), (0, 5)])), (166, ((139, 3), [(3, 192), (1, 2), (3, 195), (3, 193), (3, 194)])), (183, ((75, 2), [(3, 216), (1, 12), (3, 219), (3, 217), (3, 218)])), (187, ((78, 2), [(4, 95), (1, 12), (3, 231), (3, 229), (3, 230)])), (197, ((129, 3), [(4, 104), (1, 14), (4, 107), (4, 106), (0, 25)])), (206, ((318, 0), [(4, 70), (1, 4), (4, 75), (4, 74), (4, 73), (4, 71), (99, 14)]))]),
  (261, [(215, ((87, 2), [(4, 108), (1, 12), (4, 111), (4, 109), (4, 110)])), (219, ((96, 0), [(4, 54), (1, 13), (4, 57), (4, 55), (4, 56)])), (238, ((122, 3), [(4, 64), (1, 14), (4, 67), (4, 66), (0, 18)])), (241, ((124, 2), [(4, 80), (1, 14), (4, 83), (4, 82), (0, 20)])), (250, ((123, 1), [(4, 76), (1, 14), (4, 79), (4, 78), (0, 19)])), (260, ((119, 3), [(4, 24), (1, 14), (4, 27), (4, 26), (0, 15)]))]),
  (283, [(269, ((84, 2), [(4, 28), (1, 12), (4, 14), (4, 12), (4, 13)])), (275, ((120, 2), [(4, 29), (1, 14), (4, 31), (4, 30)])), (279, ((86, 2), [(4, 36), (1, 12), (4, 39), (4, 37), (4, 38)])), (282, ((94, 3), [(4, 40), (1, 13), (4, 43), (4, 41), (4, 42)]))])]
def xq_9_8 : xTab (Nat × (List String × Nat)) := []
def xq_9_9 : xTab (Nat × xHt) := []
def xq_9_10 : xTab (Nat × xHt) := [(246, [(245, (1, [(4, 84), (4, 85), (1, 9), (4, 86)]))])]
def xq_9_11 : xTab ((Nat × Nat × Nat) × xHt) := []
def xq_9 : xPool := ("ReportMill$Runner", xq_9_0, xq_9_1, xq_9_2, xq_9_3, xq_9_4, xq_9_5, xq_9_6, xq_9_7, xq_9_8, xq_9_9, xq_9_10, xq_9_11)
def xq_10_0 : xTab ((Nat × Nat) × xHt) := [(21, [(9, ((8, 2), [(1, 52)])), (13, ((8, 3), [(1, 53)])), (17, ((8, 4), [(1, 54)])), (20, ((8, 0), [(1, 47)]))]),
  (25, [(24, ((8, 1), [(1, 50)]))])]
def xq_10_1 : xTab ((Nat × Nat × Bool) × xHt) := [(21, [(9, ((8, 2, true), [(1, 52)])), (13, ((8, 3, true), [(1, 53)])), (17, ((8, 4, true), [(1, 54)])), (20, ((8, 0, false), [(1, 47)]))]),
  (25, [(24, ((8, 1, false), [(1, 50)]))])]
def xq_10_2 : xTab (Value × xHt) := []
def xq_10_3 : xTab (Nat × xHt) := []
def xq_10_4 : xTab (Unit × xHt) := []
def xq_10_5 : xTab (Unit × xHt) := [(2, [(1, ((), [(1, 46), (1, 39), (1, 40)]))])]
def xq_10_6 : xTab (Value × xHt) := [(49, [(48, (.long 255, [(3, 98)]))])]
def xq_10_7 : xTab ((Nat × Nat) × xHt) := [(40, [(27, ((138, 1), [(3, 95), (1, 2), (3, 97), (3, 96)])), (31, ((134, 2), [(3, 196), (1, 2), (3, 121), (3, 119), (3, 120)])), (35, ((133, 1), [(3, 197), (1, 2), (3, 164), (3, 162), (3, 163)])), (39, ((140, 1), [(3, 198), (1, 2), (3, 200), (3, 199)]))]),
  (43, [(42, ((319, 2), [(3, 201), (1, 31), (3, 203), (3, 202)]))])]
def xq_10_8 : xTab (Nat × (List String × Nat)) := []
def xq_10_9 : xTab (Nat × xHt) := []
def xq_10_10 : xTab (Nat × xHt) := []
def xq_10_11 : xTab ((Nat × Nat × Nat) × xHt) := []
def xq_10 : xPool := ("ReportMill$Table", xq_10_0, xq_10_1, xq_10_2, xq_10_3, xq_10_4, xq_10_5, xq_10_6, xq_10_7, xq_10_8, xq_10_9, xq_10_10, xq_10_11)
def xq_11_0 : xTab ((Nat × Nat) × xHt) := [(24, [(9, ((9, 0), [(1, 78)])), (15, ((9, 2), [(1, 82)])), (19, ((9, 3), [(1, 83)])), (23, ((9, 4), [(1, 84)]))]),
  (65, [(31, ((9, 8), [(1, 89)])), (38, ((9, 1), [(1, 80)])), (61, ((9, 11), [(1, 99)])), (64, ((9, 5), [(1, 85)]))]),
  (83, [(76, ((9, 7), [(1, 88)])), (79, ((9, 6), [(1, 86)])), (82, ((9, 9), [(1, 94)]))])]
def xq_11_1 : xTab ((Nat × Nat × Bool) × xHt) := [(24, [(9, ((9, 0, true), [(1, 78)])), (15, ((9, 2, true), [(1, 82)])), (19, ((9, 3, true), [(1, 83)])), (23, ((9, 4, true), [(1, 84)]))]),
  (62, [(31, ((9, 8, false), [(1, 89)])), (34, ((9, 12, false), [(1, 101)])), (38, ((9, 1, false), [(1, 80)])), (61, ((9, 11, false), [(1, 99)]))]),
  (83, [(64, ((9, 5, false), [(1, 85)])), (76, ((9, 7, false), [(1, 88)])), (79, ((9, 6, false), [(1, 86)])), (82, ((9, 9, false), [(1, 94)]))]),
  (86, [(85, ((9, 10, false), [(1, 95)]))])]
def xq_11_2 : xTab (Value × xHt) := [(112, [(27, (.ref 65, [(1, 76), (65, 0)])), (58, (.ref 62, [(5, 65), (62, 0)])), (89, (.ref 66, [(5, 34), (66, 0)])), (111, (.ref 63, [(5, 53), (63, 0)]))]),
  (115, [(114, (.ref 64, [(5, 59), (64, 0)]))])]
def xq_11_3 : xTab (Nat × xHt) := []
def xq_11_4 : xTab (Unit × xHt) := [(14, [(13, ((), [(1, 74)]))])]
def xq_11_5 : xTab (Unit × xHt) := [(2, [(1, ((), [(1, 73), (1, 39), (1, 40)]))])]
def xq_11_6 : xTab (Value × xHt) := [(110, [(49, (.long (-1), [(6, 146)])), (75, (.int 1000000, [(5, 66)])), (107, (.long 10, [(5, 51)])), (109, (.long 48, [(5, 52)]))])]
def xq_11_7 : xTab ((Nat × Nat) × xHt) := [(55, [(41, ((143, 1), [(5, 12), (1, 3), (5, 15), (5, 13), (5, 14)])), (45, ((145, 1), [(5, 20), (1, 3), (5, 22), (5, 21)])), (51, ((147, 1), [(5, 27), (1, 3), (5, 29), (5, 28)])), (54, ((315, 1), [(5, 40), (1, 5), (5, 42), (5, 41)]))]),
  (96, [(67, ((144, 2), [(5, 16), (1, 3), (5, 19), (5, 18), (0, 26)])), (71, ((149, 3), [(5, 36), (1, 3), (5, 39), (5, 38), (0, 29)])), (92, ((146, 1), [(5, 23), (1, 3), (5, 26), (5, 25), (0, 27)])), (95, ((150, 1), [(5, 47), (1, 3), (5, 50), (5, 49), (0, 30)]))]),
  (105, [(98, ((151, 1), [(5, 55), (1, 3), (5, 58), (5, 57), (0, 31)])), (101, ((152, 2), [(5, 61), (1, 3), (5, 64), (5, 63), (0, 32)])), (104, ((148, 1), [(5, 30), (1, 3), (5, 33), (5, 32), (0, 28)]))])]
def xq_11_8 : xTab (Nat × (List String × Nat)) := []
def xq_11_9 : xTab (Nat × xHt) := []
def xq_11_10 : xTab (Nat × xHt) := []
def xq_11_11 : xTab ((Nat × Nat × Nat) × xHt) := []
def xq_11 : xPool := ("ReportMill$Tape", xq_11_0, xq_11_1, xq_11_2, xq_11_3, xq_11_4, xq_11_5, xq_11_6, xq_11_7, xq_11_8, xq_11_9, xq_11_10, xq_11_11)
def xq_12_0 : xTab ((Nat × Nat) × xHt) := [(54, [(10, ((10, 0), [(2, 213)])), (19, ((10, 1), [(2, 214)])), (26, ((10, 2), [(2, 215)])), (44, ((10, 4), [(2, 217)])), (53, ((10, 5), [(2, 218)]))]),
  (100, [(62, ((10, 6), [(2, 219)])), (69, ((10, 7), [(2, 220)])), (78, ((10, 8), [(2, 221)])), (82, ((9, 1), [(1, 79)])), (99, ((8, 0), [(1, 49)]))]),
  (152, [(106, ((8, 1), [(1, 51)])), (141, ((9, 11), [(1, 100)])), (147, ((6, 11), [(2, 10)])), (150, ((0, 2), [(1, 189)])), (151, ((0, 1), [(1, 185)]))]),
  (222, [(155, ((0, 0), [(1, 182)])), (209, ((6, 0), [(1, 212)])), (213, ((7, 4), [(2, 162)])), (220, ((7, 8), [(2, 170)])), (221, ((7, 5), [(2, 164)]))]),
  (252, [(224, ((5, 2), [(2, 140)])), (227, ((7, 6), [(2, 166)])), (230, ((7, 7), [(2, 168)])), (243, ((5, 0), [(2, 135)])), (251, ((7, 9), [(2, 172)]))]),
  (276, [(254, ((6, 10), [(2, 5)])), (258, ((2, 0), [(1, 147)])), (261, ((6, 7), [(1, 233)])), (264, ((7, 10), [(2, 174)])), (275, ((5, 1), [(2, 137)]))])]
def xq_12_1 : xTab ((Nat × Nat × Bool) × xHt) := [(36, [(10, ((10, 0, true), [(2, 213)])), (19, ((10, 1, true), [(2, 214)])), (26, ((10, 2, true), [(2, 215)])), (35, ((10, 3, true), [(2, 216)]))]),
  (70, [(44, ((10, 4, true), [(2, 217)])), (53, ((10, 5, true), [(2, 218)])), (62, ((10, 6, true), [(2, 219)])), (69, ((10, 7, true), [(2, 220)]))]),
  (214, [(78, ((10, 8, true), [(2, 221)])), (82, ((9, 1, false), [(1, 79)])), (213, ((7, 4, false), [(2, 162)]))])]
def xq_12_2 : xTab (Value × xHt) := []
def xq_12_3 : xTab (Nat × xHt) := [(31, [(7, (8, [(1, 41), (1, 42), (1, 2)])), (16, (9, [(1, 68), (1, 69), (1, 3)])), (23, (6, [(1, 131), (1, 132), (1, 6)])), (30, (0, [(2, 59), (1, 172), (1, 8)]))]),
  (67, [(39, (3, [(2, 61), (2, 62), (1, 10)])), (48, (1, [(2, 83), (2, 84), (1, 11)])), (57, (4, [(2, 102), (2, 103), (1, 12)])), (66, (5, [(2, 127), (2, 128), (1, 13)]))]),
  (74, [(73, (7, [(2, 151), (2, 152), (1, 14)]))])]
def xq_12_4 : xTab (Unit × xHt) := []
def xq_12_5 : xTab (Unit × xHt) := [(2, [(1, ((), [(1, 38), (1, 39), (1, 40)]))])]
def xq_12_6 : xTab (Value × xHt) := [(274, [(271, (.long 257, [(4, 146)])), (273, (.long 31, [(4, 147)]))])]
def xq_12_7 : xTab ((Nat × Nat) × xHt) := [(42, [(9, ((130, 0), [(99, 0), (1, 2), (1, 45), (1, 44)])), (18, ((141, 0), [(99, 1), (1, 3), (1, 72), (1, 71)])), (25, ((97, 0), [(99, 2), (1, 6), (1, 135), (1, 134)])), (32, ((18, 1), [(2, 60), (1, 8), (1, 175), (1, 174)])), (41, ((50, 3), [(2, 63), (1, 10), (2, 65), (2, 64)]))]),
  (90, [(50, ((25, 4), [(2, 85), (1, 11), (2, 87), (2, 86)])), (59, ((68, 1), [(2, 104), (1, 12), (2, 106), (2, 105)])), (68, ((88, 0), [(99, 4), (1, 13), (2, 131), (2, 130)])), (75, ((110, 4), [(2, 153), (1, 14), (2, 155), (2, 154)])), (89, ((156, 1), [(4, 220), (1, 3), (4, 223), (4, 221), (4, 222)]))]),
  (117, [(95, ((157, 0), [(6, 142), (1, 3), (6, 145), (6, 143), (6, 144)])), (102, ((132, 1), [(6, 147), (1, 2), (5, 111), (5, 109), (5, 110)])), (109, ((135, 2), [(6, 148), (1, 2), (6, 151), (6, 149), (6, 150)])), (113, ((98, 0), [(6, 152), (1, 6), (5, 3), (5, 1), (5, 2)])), (116, ((111, 0), [(4, 232), (1, 14), (4, 235), (4, 233), (4, 234)]))]),
  (139, [(119, ((131, 0), [(3, 5), (1, 2), (3, 8), (3, 6), (3, 7)])), (123, ((136, 1), [(3, 72), (1, 2), (3, 75), (3, 73), (3, 74)])), (127, ((137, 1), [(3, 91), (1, 2), (3, 94), (3, 92), (3, 93)])), (134, ((134, 2), [(3, 118), (1, 2), (3, 121), (3, 119), (3, 120)])), (138, ((26, 0), [(4, 236), (1, 11), (4, 239), (4, 237), (4, 238)]))]),
  (249, [(198, ((70, 1), [(4, 134), (1, 12), (4, 137), (4, 135), (4, 136)])), (216, ((112, 1), [(3, 126), (1, 14), (3, 129), (3, 127), (3, 128)])), (239, ((95, 2), [(4, 121), (1, 13), (4, 47), (4, 45), (4, 46)])), (244, ((91, 3), [(4, 122), (1, 13), (4, 125), (4, 123), (4, 124)])), (248, ((90, 2), [(4, 148), (1, 13), (4, 151), (4, 149), (4, 150)]))])]
def xq_12_8 : xTab (Nat × (List String × Nat)) := [(132, [(86, (14, (["java/lang/RuntimeException", "java/lang/Exception"], 88))), (92, (15, (["java/lang/RuntimeException", "java/lang/Exception"], 94))), (131, (16, (["java/lang/RuntimeException", "java/lang/Exception"], 133)))])]
def xq_12_9 : xTab (Nat × xHt) := []
def xq_12_10 : xTab (Nat × xHt) := []
def xq_12_11 : xTab ((Nat × Nat × Nat) × xHt) := []
def xq_12 : xPool := ("ReportMill", xq_12_0, xq_12_1, xq_12_2, xq_12_3, xq_12_4, xq_12_5, xq_12_6, xq_12_7, xq_12_8, xq_12_9, xq_12_10, xq_12_11)
def xq_13_0 : xTab ((Nat × Nat) × xHt) := [(16, [(9, ((101, 0), [(7, 116)])), (15, ((101, 1), [(7, 117)]))])]
def xq_13_1 : xTab ((Nat × Nat × Bool) × xHt) := []
def xq_13_2 : xTab (Value × xHt) := [(1054, [(38, (.int 1, [(4, 176), (69, 0)])), (1053, (.retAddr 7, [(4, 192), (75, 0)]))])]
def xq_13_3 : xTab (Nat × xHt) := []
def xq_13_4 : xTab (Unit × xHt) := []
def xq_13_5 : xTab (Unit × xHt) := []
def xq_13_6 : xTab (Value × xHt) := []
def xq_13_7 : xTab ((Nat × Nat) × xHt) := [(1060, [(335, ((185, 0), [(4, 172), (1, 15), (4, 175), (4, 173), (4, 174)])), (492, ((189, 0), [(4, 182), (1, 15), (4, 185), (4, 183), (4, 184)])), (495, ((195, 2), [(4, 186), (1, 16), (4, 188), (4, 187)])), (1059, ((196, 3), [(4, 194), (1, 17), (4, 196), (4, 195)]))])]
def xq_13_8 : xTab (Nat × (List String × Nat)) := []
def xq_13_9 : xTab (Nat × xHt) := []
def xq_13_10 : xTab (Nat × xHt) := [(213, [(212, (5, [(7, 43), (6, 229), (6, 228), (1, 28)]))])]
def xq_13_11 : xTab ((Nat × Nat × Nat) × xHt) := []
def xq_13 : xPool := ("java/lang/String", xq_13_0, xq_13_1, xq_13_2, xq_13_3, xq_13_4, xq_13_5, xq_13_6, xq_13_7, xq_13_8, xq_13_9, xq_13_10, xq_13_11)
def xq_14_0 : xTab ((Nat × Nat) × xHt) := [(1049, [(9, ((12, 0), [(7, 116)])), (15, ((12, 1), [(7, 117)])), (1048, ((11, 2), [(6, 177)]))])]
def xq_14_1 : xTab ((Nat × Nat × Bool) × xHt) := [(16, [(9, ((12, 0, true), [(7, 116)])), (15, ((12, 1, true), [(7, 117)]))])]
def xq_14_2 : xTab (Value × xHt) := [(39, [(38, (.int 1, [(4, 176), (69, 0)]))])]
def xq_14_3 : xTab (Nat × xHt) := []
def xq_14_4 : xTab (Unit × xHt) := []
def xq_14_5 : xTab (Unit × xHt) := [(2, [(1, ((), [(7, 82), (1, 39), (1, 40)]))])]
def xq_14_6 : xTab (Value × xHt) := []
def xq_14_7 : xTab ((Nat × Nat) × xHt) := [(493, [(54, ((216, 3), [(7, 97), (1, 27), (7, 99), (7, 98)])), (335, ((186, 0), [(4, 172), (1, 15), (4, 175), (4, 173), (4, 174)])), (489, ((194, 2), [(7, 79), (1, 15), (7, 81), (7, 80)])), (492, ((190, 0), [(4, 182), (1, 15), (4, 185), (4, 183), (4, 184)]))]),
  (1048, [(495, ((195, 2), [(4, 186), (1, 16), (4, 188), (4, 187)])), (549, ((214, 0), [(7, 88), (1, 25), (7, 93), (7, 92), (7, 91), (7, 90), (7, 89), (7, 95)])), (552, ((213, 0), [(7, 83), (1, 24), (7, 87), (7, 84), (7, 86)])), (1047, ((205, 0), [(7, 96), (1, 24), (6, 234), (6, 231), (6, 233)]))])]
def xq_14_8 : xTab (Nat × (List String × Nat)) := []
def xq_14_9 : xTab (Nat × xHt) := []
def xq_14_10 : xTab (Nat × xHt) := []
def xq_14_11 : xTab ((Nat × Nat × Nat) × xHt) := []
def xq_14 : xPool := ("java/lang/String", xq_14_0, xq_14_1, xq_14_2, xq_14_3, xq_14_4, xq_14_5, xq_14_6, xq_14_7, xq_14_8, xq_14_9, xq_14_10, xq_14_11)
def xq_15_0 : xTab ((Nat × Nat) × xHt) := []
def xq_15_1 : xTab ((Nat × Nat × Bool) × xHt) := []
def xq_15_2 : xTab (Value × xHt) := []
def xq_15_3 : xTab (Nat × xHt) := []
def xq_15_4 : xTab (Unit × xHt) := []
def xq_15_5 : xTab (Unit × xHt) := []
def xq_15_6 : xTab (Value × xHt) := []
def xq_15_7 : xTab ((Nat × Nat) × xHt) := [(10, [(9, ((192, 2), [(4, 189), (1, 15), (4, 191), (4, 190)]))])]
def xq_15_8 : xTab (Nat × (List String × Nat)) := []
def xq_15_9 : xTab (Nat × xHt) := []
def xq_15_10 : xTab (Nat × xHt) := []
def xq_15_11 : xTab ((Nat × Nat × Nat) × xHt) := []
def xq_15 : xPool := ("java/lang/StringLatin1", xq_15_0, xq_15_1, xq_15_2, xq_15_3, xq_15_4, xq_15_5, xq_15_6, xq_15_7, xq_15_8, xq_15_9, xq_15_10, xq_15_11)
def xq_16_0 : xTab ((Nat × Nat) × xHt) := []
def xq_16_1 : xTab ((Nat × Nat × Bool) × xHt) := []
def xq_16_2 : xTab (Value × xHt) := []
def xq_16_3 : xTab (Nat × xHt) := []
def xq_16_4 : xTab (Unit × xHt) := []
def xq_16_5 : xTab (Unit × xHt) := []
def xq_16_6 : xTab (Value × xHt) := []
def xq_16_7 : xTab ((Nat × Nat) × xHt) := []
def xq_16_8 : xTab (Nat × (List String × Nat)) := []
def xq_16_9 : xTab (Nat × xHt) := []
def xq_16_10 : xTab (Nat × xHt) := []
def xq_16_11 : xTab ((Nat × Nat × Nat) × xHt) := []
def xq_16 : xPool := ("jdk/internal/util/Preconditions", xq_16_0, xq_16_1, xq_16_2, xq_16_3, xq_16_4, xq_16_5, xq_16_6, xq_16_7, xq_16_8, xq_16_9, xq_16_10, xq_16_11)
def xq_17_0 : xTab ((Nat × Nat) × xHt) := []
def xq_17_1 : xTab ((Nat × Nat × Bool) × xHt) := []
def xq_17_2 : xTab (Value × xHt) := []
def xq_17_3 : xTab (Nat × xHt) := [(19, [(18, (12, [(7, 74), (7, 75), (1, 15)]))])]
def xq_17_4 : xTab (Unit × xHt) := []
def xq_17_5 : xTab (Unit × xHt) := []
def xq_17_6 : xTab (Value × xHt) := []
def xq_17_7 : xTab ((Nat × Nat) × xHt) := [(70054, [(1, ((198, 1), [(6, 163), (1, 24), (6, 165), (6, 164)])), (137, ((193, 1), [(7, 76), (1, 15), (7, 78), (7, 77)])), (70029, ((200, 1), [(6, 192), (1, 24), (6, 194), (7, 132), (6, 187), (6, 193)])), (70053, ((209, 1), [(7, 49), (1, 24), (7, 51), (7, 139), (6, 187), (7, 50)]))]),
  (70344, [(70343, ((215, 0), [(7, 94), (1, 24), (7, 95), (7, 90), (6, 187), (7, 89)]))])]
def xq_17_8 : xTab (Nat × (List String × Nat)) := []
def xq_17_9 : xTab (Nat × xHt) := []
def xq_17_10 : xTab (Nat × xHt) := []
def xq_17_11 : xTab ((Nat × Nat × Nat) × xHt) := []
def xq_17 : xPool := ("java/lang/StringBuilder", xq_17_0, xq_17_1, xq_17_2, xq_17_3, xq_17_4, xq_17_5, xq_17_6, xq_17_7, xq_17_8, xq_17_9, xq_17_10, xq_17_11)
def xq_18_0 : xTab ((Nat × Nat) × xHt) := [(80, [(15, ((11, 0), [(6, 175)])), (22, ((11, 1), [(6, 176)])), (79, ((11, 3), [(6, 178)]))])]
def xq_18_1 : xTab ((Nat × Nat × Bool) × xHt) := [(80, [(15, ((11, 0, false), [(6, 175)])), (22, ((11, 1, false), [(6, 176)])), (79, ((11, 3, false), [(6, 178)]))])]
def xq_18_2 : xTab (Value × xHt) := [(19, [(18, (.int 1, [(6, 167), (69, 0)]))])]
def xq_18_3 : xTab (Nat × xHt) := []
def xq_18_4 : xTab (Unit × xHt) := []
def xq_18_5 : xTab (Unit × xHt) := [(4, [(3, ((), [(6, 166), (1, 39), (1, 40)]))])]
def xq_18_6 : xTab (Value × xHt) := [(40, [(39, (.int 2147483647, [(6, 215)]))])]
def xq_18_7 : xTab ((Nat × Nat) × xHt) := [(101, [(32, ((183, 0), [(7, 10), (1, 15), (4, 171), (4, 169), (4, 170)])), (40, ((185, 0), [(7, 19), (1, 15), (4, 175), (4, 173), (4, 174)])), (83, ((205, 0), [(6, 230), (1, 24), (6, 234), (6, 231), (6, 233)])), (100, ((201, 1), [(6, 199), (1, 24), (6, 202), (6, 201), (8, 0)]))]),
  (209, [(104, ((202, 1), [(6, 203), (1, 24), (6, 206), (6, 205), (8, 1)])), (108, ((204, 2), [(6, 216), (1, 27), (6, 218), (6, 217)])), (114, ((203, 3), [(6, 207), (1, 26), (6, 209), (6, 208)])), (208, ((206, 2), [(7, 11), (1, 24), (7, 14), (7, 13), (8, 2)]))]),
  (400, [(245, ((210, 1), [(7, 52), (1, 29), (7, 54), (7, 53)])), (248, ((211, 3), [(7, 55), (1, 29), (7, 57), (7, 56)])), (397, ((207, 1), [(7, 15), (1, 24), (7, 18), (7, 17), (8, 3)])), (399, ((191, 3), [(7, 39), (1, 15), (7, 42), (7, 40), (7, 41)]))])]
def xq_18_8 : xTab (Nat × (List String × Nat)) := []
def xq_18_9 : xTab (Nat × xHt) := []
def xq_18_10 : xTab (Nat × xHt) := []
def xq_18_11 : xTab ((Nat × Nat × Nat) × xHt) := []
def xq_18 : xPool := ("java/lang/AbstractStringBuilder", xq_18_0, xq_18_1, xq_18_2, xq_18_3, xq_18_4, xq_18_5, xq_18_6, xq_18_7, xq_18_8, xq_18_9, xq_18_10, xq_18_11)
def xq_19_0 : xTab ((Nat × Nat) × xHt) := []
def xq_19_1 : xTab ((Nat × Nat × Bool) × xHt) := []
def xq_19_2 : xTab (Value × xHt) := []
def xq_19_3 : xTab (Nat × xHt) := []
def xq_19_4 : xTab (Unit × xHt) := []
def xq_19_5 : xTab (Unit × xHt) := []
def xq_19_6 : xTab (Value × xHt) := [(201, [(200, (.int 2147483639, [(6, 211)]))])]
def xq_19_7 : xTab ((Nat × Nat) × xHt) := []
def xq_19_8 : xTab (Nat × (List String × Nat)) := []
def xq_19_9 : xTab (Nat × xHt) := []
def xq_19_10 : xTab (Nat × xHt) := [(195, [(194, (0, [(6, 210), (1, 178), (1, 9), (1, 179)]))])]
def xq_19_11 : xTab ((Nat × Nat × Nat) × xHt) := []
def xq_19 : xPool := ("jdk/internal/util/ArraysSupport", xq_19_0, xq_19_1, xq_19_2, xq_19_3, xq_19_4, xq_19_5, xq_19_6, xq_19_7, xq_19_8, xq_19_9, xq_19_10, xq_19_11)
def xq_20_0 : xTab ((Nat × Nat) × xHt) := []
def xq_20_1 : xTab ((Nat × Nat × Bool) × xHt) := []
def xq_20_2 : xTab (Value × xHt) := []
def xq_20_3 : xTab (Nat × xHt) := []
def xq_20_4 : xTab (Unit × xHt) := []
def xq_20_5 : xTab (Unit × xHt) := []
def xq_20_6 : xTab (Value × xHt) := []
def xq_20_7 : xTab ((Nat × Nat) × xHt) := [(344, [(339, ((217, 3), [(7, 100), (1, 27), (7, 102), (7, 101)])), (343, ((218, 2), [(7, 103), (1, 27), (7, 105), (7, 104)]))])]
def xq_20_8 : xTab (Nat × (List String × Nat)) := []
def xq_20_9 : xTab (Nat × xHt) := []
def xq_20_10 : xTab (Nat × xHt) := [(312, [(150, (5, [(6, 227), (6, 229), (6, 228), (1, 28)])), (304, (1, [(6, 226), (4, 85), (1, 9), (4, 86)])), (310, (6, [(6, 219), (6, 220), (6, 221), (6, 222), (6, 223), (99, 15)])), (311, (7, [(6, 225)]))])]
def xq_20_11 : xTab ((Nat × Nat × Nat) × xHt) := []
def xq_20 : xPool := ("java/util/Arrays", xq_20_0, xq_20_1, xq_20_2, xq_20_3, xq_20_4, xq_20_5, xq_20_6, xq_20_7, xq_20_8, xq_20_9, xq_20_10, xq_20_11)
def xq_21_0 : xTab ((Nat × Nat) × xHt) := []
def xq_21_1 : xTab ((Nat × Nat × Bool) × xHt) := []
def xq_21_2 : xTab (Value × xHt) := [(88, [(83, (.ref 77, [(7, 58), (73, 0)])), (87, (.ref 78, [(7, 60), (74, 0)]))])]
def xq_21_3 : xTab (Nat × xHt) := []
def xq_21_4 : xTab (Unit × xHt) := []
def xq_21_5 : xTab (Unit × xHt) := []
def xq_21_6 : xTab (Value × xHt) := []
def xq_21_7 : xTab ((Nat × Nat) × xHt) := []
def xq_21_8 : xTab (Nat × (List String × Nat)) := []
def xq_21_9 : xTab (Nat × xHt) := []
def xq_21_10 : xTab (Nat × xHt) := []
def xq_21_11 : xTab ((Nat × Nat × Nat) × xHt) := []
def xq_21 : xPool := ("java/lang/Integer", xq_21_0, xq_21_1, xq_21_2, xq_21_3, xq_21_4, xq_21_5, xq_21_6, xq_21_7, xq_21_8, xq_21_9, xq_21_10, xq_21_11)
def xq_22_0 : xTab ((Nat × Nat) × xHt) := [(235, [(230, ((100, 1), [(7, 140)])), (234, ((100, 2), [(7, 145)]))])]
def xq_22_1 : xTab ((Nat × Nat × Bool) × xHt) := []
def xq_22_2 : xTab (Value × xHt) := [(193, [(30, (.ref 8, [(6, 36), (8, 0)])), (33, (.ref 9, [(6, 37), (9, 0)])), (162, (.ref 52, [(6, 91), (52, 0)])), (192, (.ref 62, [(5, 45), (62, 0)]))]),
  (258, [(257, (.ref 67, [(5, 43), (67, 0)]))])]
def xq_22_3 : xTab (Nat × xHt) := []
def xq_22_4 : xTab (Unit × xHt) := []
def xq_22_5 : xTab (Unit × xHt) := []
def xq_22_6 : xTab (Value × xHt) := []
def xq_22_7 : xTab ((Nat × Nat) × xHt) := []
def xq_22_8 : xTab (Nat × (List String × Nat)) := []
def xq_22_9 : xTab (Nat × xHt) := []
def xq_22_10 : xTab (Nat × xHt) := []
def xq_22_11 : xTab ((Nat × Nat × Nat) × xHt) := []
def xq_22 : xPool := ("ReportMill$Kind", xq_22_0, xq_22_1, xq_22_2, xq_22_3, xq_22_4, xq_22_5, xq_22_6, xq_22_7, xq_22_8, xq_22_9, xq_22_10, xq_22_11)
def xq_23_0 : xTab ((Nat × Nat) × xHt) := [(8, [(7, ((100, 0), [(7, 142)]))])]
def xq_23_1 : xTab ((Nat × Nat × Bool) × xHt) := []
def xq_23_2 : xTab (Value × xHt) := []
def xq_23_3 : xTab (Nat × xHt) := []
def xq_23_4 : xTab (Unit × xHt) := []
def xq_23_5 : xTab (Unit × xHt) := []
def xq_23_6 : xTab (Value × xHt) := []
def xq_23_7 : xTab ((Nat × Nat) × xHt) := []
def xq_23_8 : xTab (Nat × (List String × Nat)) := []
def xq_23_9 : xTab (Nat × xHt) := []
def xq_23_10 : xTab (Nat × xHt) := []
def xq_23_11 : xTab ((Nat × Nat × Nat) × xHt) := []
def xq_23 : xPool := ("java/lang/Enum", xq_23_0, xq_23_1, xq_23_2, xq_23_3, xq_23_4, xq_23_5, xq_23_6, xq_23_7, xq_23_8, xq_23_9, xq_23_10, xq_23_11)
def xq_24_0 : xTab ((Nat × Nat) × xHt) := []
def xq_24_1 : xTab ((Nat × Nat × Bool) × xHt) := []
def xq_24_2 : xTab (Value × xHt) := []
def xq_24_3 : xTab (Nat × xHt) := []
def xq_24_4 : xTab (Unit × xHt) := []
def xq_24_5 : xTab (Unit × xHt) := []
def xq_24_6 : xTab (Value × xHt) := []
def xq_24_7 : xTab ((Nat × Nat) × xHt) := []
def xq_24_8 : xTab (Nat × (List String × Nat)) := []
def xq_24_9 : xTab (Nat × xHt) := []
def xq_24_10 : xTab (Nat × xHt) := []
def xq_24_11 : xTab ((Nat × Nat × Nat) × xHt) := []
def xq_24 : xPool := ("java/lang/Long", xq_24_0, xq_24_1, xq_24_2, xq_24_3, xq_24_4, xq_24_5, xq_24_6, xq_24_7, xq_24_8, xq_24_9, xq_24_10, xq_24_11)
def xPs : List xPool := [xq_0, xq_1, xq_2, xq_3, xq_4, xq_5, xq_6, xq_7, xq_8, xq_9, xq_10, xq_11, xq_12, xq_13, xq_14, xq_15, xq_16, xq_17, xq_18, xq_19, xq_20, xq_21, xq_22, xq_23, xq_24]
