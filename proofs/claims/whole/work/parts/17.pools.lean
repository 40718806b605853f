/-! THE PROGRAM's TABLES, by program (wip/whole/gen_t.py) out of the claim's own texts -/
def xCds : List xCd := [("ReportMill$Code", [("ReportMill$Code", "operations", "[I", true, (.array .int)), ("ReportMill$Code", "arguments", "[J", true, (.array .long)), ("ReportMill$Code", "length", "I", false, .int), ("ReportMill$Code", "textBytes", "[B", true, (.array .byte)), ("ReportMill$Code", "textStarts", "[I", true, (.array .int)), ("ReportMill$Code", "textCount", "I", false, .int)], 0),
  ("ReportMill$Compiler", [("ReportMill$Compiler", "tape", "LReportMill$Tape;", true, (.object "ReportMill$Tape")), ("ReportMill$Compiler", "table", "LReportMill$Table;", true, (.object "ReportMill$Table")), ("ReportMill$Compiler", "program", "LReportMill$Program;", true, (.object "ReportMill$Program")), ("ReportMill$Compiler", "expressions", "LReportMill$Expressions;", true, (.object "ReportMill$Expressions"))], 0),
  ("ReportMill$Definitions", [("ReportMill$Definitions", "length", "I", false, .int), ("ReportMill$Definitions", "names", "[J", true, (.array .long)), ("ReportMill$Definitions", "texts", "[Z", true, (.array .boolean)), ("ReportMill$Definitions", "starts", "[I", true, (.array .int)), ("ReportMill$Definitions", "tallies", "[LReportMill$Kind;", true, (.array (.object "ReportMill$Kind"))), ("ReportMill$Definitions", "scopes", "[I", true, (.array .int))], 0),
  ("ReportMill$Expressions", [("ReportMill$Expressions", "tape", "LReportMill$Tape;", true, (.object "ReportMill$Tape")), ("ReportMill$Expressions", "table", "LReportMill$Table;", true, (.object "ReportMill$Table")), ("ReportMill$Expressions", "program", "LReportMill$Program;", true, (.object "ReportMill$Program")), ("ReportMill$Expressions", "code", "LReportMill$Code;", false, (.object "ReportMill$Code")), ("ReportMill$Expressions", "where", "I", false, .int)], 0),
  ("ReportMill$Machine", [("ReportMill$Machine", "table", "LReportMill$Table;", true, (.object "ReportMill$Table")), ("ReportMill$Machine", "isText", "[Z", true, (.array .boolean)), ("ReportMill$Machine", "numbers", "[J", true, (.array .long)), ("ReportMill$Machine", "lengths", "[I", true, (.array .int)), ("ReportMill$Machine", "bytes", "[B", true, (.array .byte))], 0),
  ("ReportMill$Paper", [("ReportMill$Paper", "width", "I", false, .int), ("ReportMill$Paper", "height", "I", false, .int), ("ReportMill$Paper", "pageCount", "I", false, .int), ("ReportMill$Paper", "bytes", "[B", true, (.array .byte))], 0),
  ("ReportMill$Program", [("ReportMill$Program", "isThere", "Z", false, .boolean), ("ReportMill$Program", "hasPage", "Z", false, .boolean), ("ReportMill$Program", "width", "I", false, .int), ("ReportMill$Program", "height", "I", false, .int), ("ReportMill$Program", "orderCount", "I", false, .int), ("ReportMill$Program", "orders", "[I", true, (.array .int)), ("ReportMill$Program", "downs", "[Z", true, (.array .boolean)), ("ReportMill$Program", "groupCount", "I", false, .int), ("ReportMill$Program", "groups", "[I", true, (.array .int)), ("ReportMill$Program", "lets", "LReportMill$Definitions;", true, (.object "ReportMill$Definitions")), ("ReportMill$Program", "totals", "LReportMill$Definitions;", true, (.object "ReportMill$Definitions")), ("ReportMill$Program", "code", "LReportMill$Code;", true, (.object "ReportMill$Code")), ("ReportMill$Program", "bands", "[I", true, (.array .int)), ("ReportMill$Program", "itemCount", "I", false, .int), ("ReportMill$Program", "itemKinds", "[LReportMill$Kind;", true, (.array (.object "ReportMill$Kind"))), ("ReportMill$Program", "itemNumbers", "[I", true, (.array .int)), ("ReportMill$Program", "itemCodes", "[I", true, (.array .int)), ("ReportMill$Program", "itemEnds", "[I", true, (.array .int))], 0),
  ("ReportMill$Runner", [("ReportMill$Runner", "table", "LReportMill$Table;", true, (.object "ReportMill$Table")), ("ReportMill$Runner", "program", "LReportMill$Program;", true, (.object "ReportMill$Program")), ("ReportMill$Runner", "machine", "LReportMill$Machine;", true, (.object "ReportMill$Machine")), ("ReportMill$Runner", "paper", "LReportMill$Paper;", true, (.object "ReportMill$Paper")), ("ReportMill$Runner", "runs", "I", false, .int), ("ReportMill$Runner", "firstPages", "I", false, .int), ("ReportMill$Runner", "takenRows", "I", false, .int), ("ReportMill$Runner", "printedLines", "I", false, .int), ("ReportMill$Runner", "error", "I", false, .int), ("ReportMill$Runner", "order", "[I", true, (.array .int)), ("ReportMill$Runner", "breaks", "[I", true, (.array .int)), ("ReportMill$Runner", "hasTaken", "[Z", true, (.array .boolean)), ("ReportMill$Runner", "topHeight", "I", false, .int), ("ReportMill$Runner", "bodyHeight", "I", false, .int), ("ReportMill$Runner", "bottomLine", "I", false, .int), ("ReportMill$Runner", "usedLines", "I", false, .int)], 0),
  ("ReportMill$Table", [("ReportMill$Table", "columnCount", "I", false, .int), ("ReportMill$Table", "cellCount", "I", false, .int), ("ReportMill$Table", "names", "[J", true, (.array .long)), ("ReportMill$Table", "texts", "[Z", true, (.array .boolean)), ("ReportMill$Table", "cells", "[J", true, (.array .long))], 0),
  ("ReportMill$Tape", [("ReportMill$Tape", "bytes", "[B", true, (.array .byte)), ("ReportMill$Tape", "length", "I", false, .int), ("ReportMill$Tape", "kinds", "[LReportMill$Kind;", true, (.array (.object "ReportMill$Kind"))), ("ReportMill$Tape", "starts", "[I", true, (.array .int)), ("ReportMill$Tape", "values", "[J", true, (.array .long)), ("ReportMill$Tape", "tokenCount", "I", false, .int), ("ReportMill$Tape", "index", "I", false, .int), ("ReportMill$Tape", "room", "I", false, .int), ("ReportMill$Tape", "kind", "LReportMill$Kind;", false, (.object "ReportMill$Kind")), ("ReportMill$Tape", "start", "I", false, .int), ("ReportMill$Tape", "value", "J", false, .long), ("ReportMill$Tape", "error", "I", false, .int), ("ReportMill$Tape", "errorPlace", "I", false, .int)], 0),
  ("ReportMill", [("ReportMill", "table", "LReportMill$Table;", true, (.object "ReportMill$Table")), ("ReportMill", "tape", "LReportMill$Tape;", true, (.object "ReportMill$Tape")), ("ReportMill", "program", "LReportMill$Program;", true, (.object "ReportMill$Program")), ("ReportMill", "formula", "LReportMill$Code;", true, (.object "ReportMill$Code")), ("ReportMill", "expressions", "LReportMill$Expressions;", true, (.object "ReportMill$Expressions")), ("ReportMill", "compiler", "LReportMill$Compiler;", true, (.object "ReportMill$Compiler")), ("ReportMill", "machine", "LReportMill$Machine;", true, (.object "ReportMill$Machine")), ("ReportMill", "paper", "LReportMill$Paper;", true, (.object "ReportMill$Paper")), ("ReportMill", "runner", "LReportMill$Runner;", true, (.object "ReportMill$Runner"))], 0),
  ("ReportMillModel$Unit", [("ReportMillModel$Unit", "codes", "[I", true, (.array .int)), ("ReportMillModel$Unit", "arguments", "[J", true, (.array .long)), ("ReportMillModel$Unit", "size", "I", false, .int), ("ReportMillModel$Unit", "bytes", "[I", true, (.array .int)), ("ReportMillModel$Unit", "textFrom", "[I", true, (.array .int)), ("ReportMillModel$Unit", "textLong", "[I", true, (.array .int)), ("ReportMillModel$Unit", "texts", "I", false, .int)], 0),
  ("ReportMillModel", [("ReportMillModel", "thrown", "I", false, .int), ("ReportMillModel", "keys", "[J", true, (.array .long)), ("ReportMillModel", "tape", "[I", true, (.array .int)), ("ReportMillModel", "taped", "I", false, .int), ("ReportMillModel", "columns", "I", false, .int), ("ReportMillModel", "columnNames", "[J", true, (.array .long)), ("ReportMillModel", "columnTypes", "[I", true, (.array .int)), ("ReportMillModel", "cellsPut", "I", false, .int), ("ReportMillModel", "cells", "[J", true, (.array .long)), ("ReportMillModel", "tokens", "I", false, .int), ("ReportMillModel", "kinds", "[I", true, (.array .int)), ("ReportMillModel", "places", "[I", true, (.array .int)), ("ReportMillModel", "worths", "[J", true, (.array .long)), ("ReportMillModel", "longs", "[I", true, (.array .int)), ("ReportMillModel", "t", "I", false, .int), ("ReportMillModel", "means", "Z", false, .boolean), ("ReportMillModel", "depth", "I", false, .int), ("ReportMillModel", "budget", "I", false, .int), ("ReportMillModel", "program", "LReportMillModel$Unit;", true, (.object "ReportMillModel$Unit")), ("ReportMillModel", "single", "LReportMillModel$Unit;", true, (.object "ReportMillModel$Unit")), ("ReportMillModel", "unit", "LReportMillModel$Unit;", false, (.object "ReportMillModel$Unit")), ("ReportMillModel", "isThere", "Z", false, .boolean), ("ReportMillModel", "isPlain", "Z", false, .boolean), ("ReportMillModel", "plain", "J", false, .long), ("ReportMillModel", "scope", "I", false, .int), ("ReportMillModel", "lets", "I", false, .int), ("ReportMillModel", "letNames", "[J", true, (.array .long)), ("ReportMillModel", "letTypes", "[I", true, (.array .int)), ("ReportMillModel", "letStarts", "[I", true, (.array .int)), ("ReportMillModel", "totals", "I", false, .int), ("ReportMillModel", "totalNames", "[J", true, (.array .long)), ("ReportMillModel", "totalTypes", "[I", true, (.array .int)), ("ReportMillModel", "totalKinds", "[I", true, (.array .int)), ("ReportMillModel", "totalStarts", "[I", true, (.array .int)), ("ReportMillModel", "totalPers", "[I", true, (.array .int)), ("ReportMillModel", "hasPage", "Z", false, .boolean), ("ReportMillModel", "width", "I", false, .int), ("ReportMillModel", "height", "I", false, .int), ("ReportMillModel", "orders", "I", false, .int), ("ReportMillModel", "orderColumns", "[I", true, (.array .int)), ("ReportMillModel", "areDown", "[Z", true, (.array .boolean)), ("ReportMillModel", "groups", "I", false, .int), ("ReportMillModel", "groupColumns", "[I", true, (.array .int)), ("ReportMillModel", "bandStarts", "[I", true, (.array .int)), ("ReportMillModel", "planned", "I", false, .int), ("ReportMillModel", "plan", "[I", true, (.array .int)), ("ReportMillModel", "planA", "[I", true, (.array .int)), ("ReportMillModel", "planB", "[I", true, (.array .int)), ("ReportMillModel", "planC", "[I", true, (.array .int)), ("ReportMillModel", "errorAt", "I", false, .int), ("ReportMillModel", "topHeight", "I", false, .int), ("ReportMillModel", "bottomHeight", "I", false, .int), ("ReportMillModel", "result", "J", false, .long), ("ReportMillModel", "resultLong", "I", false, .int), ("ReportMillModel", "resultBytes", "[I", true, (.array .int)), ("ReportMillModel", "numbers", "[J", true, (.array .long)), ("ReportMillModel", "lengths", "[I", true, (.array .int)), ("ReportMillModel", "bytes", "[I", true, (.array .int)), ("ReportMillModel", "piled", "I", false, .int), ("ReportMillModel", "rowNow", "I", false, .int), ("ReportMillModel", "special", "Z", false, .boolean), ("ReportMillModel", "valueNumbers", "[J", true, (.array .long)), ("ReportMillModel", "valueLongs", "[I", true, (.array .int)), ("ReportMillModel", "valueBytes", "[I", true, (.array .int)), ("ReportMillModel", "runs", "I", false, .int), ("ReportMillModel", "firstPages", "I", false, .int), ("ReportMillModel", "pages", "I", false, .int), ("ReportMillModel", "known", "J", false, .long), ("ReportMillModel", "taken", "I", false, .int), ("ReportMillModel", "printed", "I", false, .int), ("ReportMillModel", "runError", "I", false, .int), ("ReportMillModel", "used", "I", false, .int), ("ReportMillModel", "order", "[I", true, (.array .int)), ("ReportMillModel", "breaks", "[I", true, (.array .int)), ("ReportMillModel", "haveTaken", "[Z", true, (.array .boolean)), ("ReportMillModel", "paper", "[I", true, (.array .int))], 0),
  ("ReportMillModel$Stopped", [("ReportMillModel$Stopped", "error", "I", true, .int), ("ReportMillModel$Stopped", "place", "I", true, .int)], 6),
  ("java/lang/IllegalStateException", [], 6),
  ("java/lang/IllegalArgumentException", [], 6),
  ("java/lang/IndexOutOfBoundsException", [], 6)]
def xCdB : List xCd := [("ReportMill$Kind", [("java/lang/Enum", "ordinal", "I", false, .int), ("ReportMill$Kind", "word", "J", false, .long), ("ReportMill$Kind", "role", "I", false, .int), ("ReportMill$Kind", "number", "I", false, .int)], 0),
  ("java/lang/String", [("java/lang/String", "value", "[B", false, (.array .byte)), ("java/lang/String", "coder", "B", false, .byte)], 0)]
def xSts (v : Value) : List (String × String × String × Value) := [("ReportMill$Kind", "PAGE", "LReportMill$Kind;", .ref 0),
  ("ReportMill$Kind", "ORDER", "LReportMill$Kind;", .ref 1),
  ("ReportMill$Kind", "DOWN", "LReportMill$Kind;", .ref 2),
  ("ReportMill$Kind", "GROUP", "LReportMill$Kind;", .ref 3),
  ("ReportMill$Kind", "LET", "LReportMill$Kind;", .ref 4),
  ("ReportMill$Kind", "TOTAL", "LReportMill$Kind;", .ref 5),
  ("ReportMill$Kind", "SUM", "LReportMill$Kind;", .ref 6),
  ("ReportMill$Kind", "COUNT", "LReportMill$Kind;", .ref 7),
  ("ReportMill$Kind", "LEAST", "LReportMill$Kind;", .ref 8),
  ("ReportMill$Kind", "MOST", "LReportMill$Kind;", .ref 9),
  ("ReportMill$Kind", "FIRST", "LReportMill$Kind;", .ref 10),
  ("ReportMill$Kind", "LAST", "LReportMill$Kind;", .ref 11),
  ("ReportMill$Kind", "PER", "LReportMill$Kind;", .ref 12),
  ("ReportMill$Kind", "BAND", "LReportMill$Kind;", .ref 13),
  ("ReportMill$Kind", "TITLE", "LReportMill$Kind;", .ref 14),
  ("ReportMill$Kind", "TOP", "LReportMill$Kind;", .ref 15),
  ("ReportMill$Kind", "BOTTOM", "LReportMill$Kind;", .ref 16),
  ("ReportMill$Kind", "BEFORE", "LReportMill$Kind;", .ref 17),
  ("ReportMill$Kind", "ROW", "LReportMill$Kind;", .ref 18),
  ("ReportMill$Kind", "AFTER", "LReportMill$Kind;", .ref 19),
  ("ReportMill$Kind", "SUMMARY", "LReportMill$Kind;", .ref 20),
  ("ReportMill$Kind", "END", "LReportMill$Kind;", .ref 21),
  ("ReportMill$Kind", "LINE", "LReportMill$Kind;", .ref 22),
  ("ReportMill$Kind", "AT", "LReportMill$Kind;", .ref 23),
  ("ReportMill$Kind", "SKIP", "LReportMill$Kind;", .ref 24),
  ("ReportMill$Kind", "NEED", "LReportMill$Kind;", .ref 25),
  ("ReportMill$Kind", "EJECT", "LReportMill$Kind;", .ref 26),
  ("ReportMill$Kind", "KEEP", "LReportMill$Kind;", .ref 27),
  ("ReportMill$Kind", "IF", "LReportMill$Kind;", .ref 28),
  ("ReportMill$Kind", "THEN", "LReportMill$Kind;", .ref 29),
  ("ReportMill$Kind", "ELSE", "LReportMill$Kind;", .ref 30),
  ("ReportMill$Kind", "LEFT", "LReportMill$Kind;", .ref 31),
  ("ReportMill$Kind", "RIGHT", "LReportMill$Kind;", .ref 32),
  ("ReportMill$Kind", "MID", "LReportMill$Kind;", .ref 33),
  ("ReportMill$Kind", "OR", "LReportMill$Kind;", .ref 34),
  ("ReportMill$Kind", "AND", "LReportMill$Kind;", .ref 35),
  ("ReportMill$Kind", "NOT", "LReportMill$Kind;", .ref 36),
  ("ReportMill$Kind", "LEN", "LReportMill$Kind;", .ref 37),
  ("ReportMill$Kind", "UPPER", "LReportMill$Kind;", .ref 38),
  ("ReportMill$Kind", "PART", "LReportMill$Kind;", .ref 39),
  ("ReportMill$Kind", "TEXT", "LReportMill$Kind;", .ref 40),
  ("ReportMill$Kind", "MONEY", "LReportMill$Kind;", .ref 41),
  ("ReportMill$Kind", "ABS", "LReportMill$Kind;", .ref 42),
  ("ReportMill$Kind", "PAGENO", "LReportMill$Kind;", .ref 43),
  ("ReportMill$Kind", "PAGES", "LReportMill$Kind;", .ref 44),
  ("ReportMill$Kind", "ROWNO", "LReportMill$Kind;", .ref 45),
  ("ReportMill$Kind", "OPEN", "LReportMill$Kind;", .ref 46),
  ("ReportMill$Kind", "CLOSE", "LReportMill$Kind;", .ref 47),
  ("ReportMill$Kind", "COMMA", "LReportMill$Kind;", .ref 48),
  ("ReportMill$Kind", "COLON", "LReportMill$Kind;", .ref 49),
  ("ReportMill$Kind", "EQUAL", "LReportMill$Kind;", .ref 50),
  ("ReportMill$Kind", "PLUS", "LReportMill$Kind;", .ref 51),
  ("ReportMill$Kind", "MINUS", "LReportMill$Kind;", .ref 52),
  ("ReportMill$Kind", "TIMES", "LReportMill$Kind;", .ref 53),
  ("ReportMill$Kind", "OVER", "LReportMill$Kind;", .ref 54),
  ("ReportMill$Kind", "REST", "LReportMill$Kind;", .ref 55),
  ("ReportMill$Kind", "JOIN", "LReportMill$Kind;", .ref 56),
  ("ReportMill$Kind", "LESS", "LReportMill$Kind;", .ref 57),
  ("ReportMill$Kind", "GREATER", "LReportMill$Kind;", .ref 58),
  ("ReportMill$Kind", "AT_MOST", "LReportMill$Kind;", .ref 59),
  ("ReportMill$Kind", "AT_LEAST", "LReportMill$Kind;", .ref 60),
  ("ReportMill$Kind", "UNEQUAL", "LReportMill$Kind;", .ref 61),
  ("ReportMill$Kind", "NAME", "LReportMill$Kind;", .ref 62),
  ("ReportMill$Kind", "NUMBER", "LReportMill$Kind;", .ref 63),
  ("ReportMill$Kind", "QUOTE", "LReportMill$Kind;", .ref 64),
  ("ReportMill$Kind", "TAPE_END", "LReportMill$Kind;", .ref 65),
  ("ReportMill$Kind", "WRONG", "LReportMill$Kind;", .ref 66),
  ("ReportMill$Kind", "ALL", "[LReportMill$Kind;", .ref 67),
  ("ReportMill$1", "$SwitchMap$ReportMill$Kind", "[I", .ref 68),
  ("java/lang/String", "COMPACT_STRINGS", "Z", .int 1),
  ("java/lang/StringUTF16", "$assertionsDisabled", "Z", .int 1),
  ("java/lang/StringUTF16", "HI_BYTE_SHIFT", "I", .int 0),
  ("java/lang/StringUTF16", "LO_BYTE_SHIFT", "I", .int 8),
  ("jdk/internal/util/Preconditions", "SIOOBE_FORMATTER", "Ljava/util/function/BiFunction;", v)]
def xSrs : List (String × Nat × String × Nat) := [("ReportMillModel", 150, "page order down group let total sum count least most first last per band title top bottom before row after summary end line at skip need eject keep if then else left right mid or and not len upper part text money abs pageno pages rowno ", 69), ("ReportMillModel", 254, "(),:=+-*/%&<>", 71)]
def xCwp : List xHt := [[(1, 196), (1, 198), (1, 200), (1, 202), (1, 204), (1, 206)],
  [(2, 95), (2, 97), (2, 99), (2, 101)],
  [(1, 158), (1, 160), (1, 162), (1, 164), (1, 166), (1, 168)],
  [(2, 74), (2, 76), (2, 78), (2, 80), (2, 82)],
  [(2, 120), (2, 122), (2, 124), (2, 126), (2, 128)],
  [(2, 146), (2, 148), (2, 150), (2, 152)],
  [(2, 24), (2, 26), (2, 28), (2, 30), (2, 32), (2, 34), (2, 36), (2, 38), (2, 40), (2, 42), (2, 44), (2, 46), (2, 48), (2, 50), (2, 52), (2, 54), (2, 56), (2, 58)],
  [(2, 184), (2, 186), (2, 188), (2, 190), (2, 192), (2, 194), (2, 196), (2, 198), (2, 200), (2, 202), (2, 204), (2, 206), (2, 208), (2, 210), (2, 212), (2, 214)],
  [(1, 53), (1, 55), (1, 57), (1, 59), (1, 61)],
  [(1, 102), (1, 104), (1, 106), (1, 108), (1, 110), (1, 112), (1, 114), (1, 116), (1, 118), (1, 120), (1, 122), (1, 124), (1, 126)],
  [(2, 226), (2, 228), (2, 230), (2, 232), (2, 234), (2, 236), (2, 238), (3, 0), (3, 2)],
  [(6, 229), (6, 231), (6, 233), (6, 235), (6, 237), (6, 239), (7, 1)],
  [(7, 183), (7, 185), (7, 187), (7, 189), (7, 191), (7, 193), (7, 195), (7, 197), (7, 199), (7, 201), (7, 203), (7, 205), (7, 207), (7, 209), (7, 211), (7, 213), (7, 215), (7, 217), (7, 219), (7, 221), (7, 223), (7, 225), (7, 227), (7, 229), (7, 231), (7, 233), (7, 235), (7, 237), (7, 239), (8, 1), (8, 3), (8, 5), (8, 7), (8, 9), (8, 11), (8, 13), (8, 15), (8, 17), (8, 19), (8, 21), (8, 23), (8, 25), (8, 27), (8, 29), (8, 31), (8, 33), (8, 35), (8, 37), (8, 39), (8, 41), (8, 43), (8, 45), (8, 47), (8, 49), (8, 51), (8, 53), (8, 55), (8, 57), (8, 59), (8, 61), (8, 63), (8, 65), (8, 67), (8, 69), (8, 71), (8, 73), (8, 75), (8, 77), (8, 79), (8, 81), (8, 83), (8, 85), (8, 87), (8, 89), (8, 91), (8, 93)],
  [(9, 19), (9, 21)],
  [],
  [],
  []]
def xNws : List Cond := [(.methodLinkNest "ReportMill" 9 ⟨"ReportMill$Table", "<init>", "()V"⟩ "ReportMill"),
  (.methodLinkNest "ReportMill" 18 ⟨"ReportMill$Tape", "<init>", "()V"⟩ "ReportMill"),
  (.methodLinkNest "ReportMill" 25 ⟨"ReportMill$Program", "<init>", "()V"⟩ "ReportMill"),
  (.methodLinkNest "ReportMill$Program" 24 ⟨"ReportMill$Definitions", "<init>", "()V"⟩ "ReportMill"),
  (.methodLinkNest "ReportMill" 68 ⟨"ReportMill$Paper", "<init>", "()V"⟩ "ReportMill"),
  (.declares ⟨"java/lang/Enum", "ordinal", "()I"⟩),
  (.castable "java/lang/IllegalStateException" "java/lang/IllegalStateException"),
  (.declares ⟨"java/lang/RuntimeException", "<init>", "()V"⟩),
  (.declares ⟨"java/lang/RuntimeException", "<init>", "(Ljava/lang/String;)V"⟩),
  (.declares ⟨"java/lang/Exception", "<init>", "()V"⟩),
  (.declares ⟨"java/lang/Exception", "<init>", "(Ljava/lang/String;)V"⟩),
  (.declares ⟨"java/lang/Throwable", "<init>", "()V"⟩),
  (.declares ⟨"java/lang/Throwable", "<init>", "(Ljava/lang/String;)V"⟩),
  (.castable "java/lang/IllegalArgumentException" "java/lang/IllegalArgumentException"),
  (.castable "java/lang/IndexOutOfBoundsException" "java/lang/IndexOutOfBoundsException"),
  (.methodLinkNest "ReportMillModel" 46 ⟨"ReportMillModel$Unit", "<init>", "()V"⟩ "ReportMillModel"),
  (.fieldLinkNest "ReportMillModel" 286 "ReportMillModel$Unit" "codes" "[I" "ReportMillModel"),
  (.fieldLinkNest "ReportMillModel" 292 "ReportMillModel$Unit" "arguments" "[J" "ReportMillModel"),
  (.fieldLinkNest "ReportMillModel" 289 "ReportMillModel$Unit" "size" "I" "ReportMillModel"),
  (.fieldLinkNest "ReportMillModel" 491 "ReportMillModel$Unit" "bytes" "[I" "ReportMillModel"),
  (.fieldLinkNest "ReportMillModel" 391 "ReportMillModel$Unit" "textFrom" "[I" "ReportMillModel"),
  (.fieldLinkNest "ReportMillModel" 397 "ReportMillModel$Unit" "textLong" "[I" "ReportMillModel"),
  (.fieldLinkNest "ReportMillModel" 394 "ReportMillModel$Unit" "texts" "I" "ReportMillModel"),
  (.castable "ReportMillModel$Stopped" "ReportMillModel$Stopped"),
  (.methodLinkNest "ReportMillModel" 263 ⟨"ReportMillModel$Stopped", "<init>", "(II)V"⟩ "ReportMillModel"),
  (.fieldLinkNest "ReportMillModel" 524 "ReportMillModel$Stopped" "error" "I" "ReportMillModel"),
  (.fieldLinkNest "ReportMillModel" 527 "ReportMillModel$Stopped" "place" "I" "ReportMillModel")]
def xNcl : List (String × String) := [("ReportMill", "java/lang/IllegalStateException"),
  ("ReportMill$Table", "java/lang/IllegalStateException"),
  ("ReportMill$Tape", "java/lang/IllegalStateException"),
  ("ReportMill$Kind", "java/lang/IllegalStateException"),
  ("ReportMill$Program", "java/lang/IllegalStateException"),
  ("ReportMill$Definitions", "java/lang/IllegalStateException"),
  ("ReportMill$Code", "java/lang/IllegalStateException"),
  ("ReportMill$Expressions", "java/lang/IllegalStateException"),
  ("ReportMill$Compiler", "java/lang/IllegalStateException"),
  ("ReportMill$Machine", "java/lang/IllegalStateException"),
  ("ReportMill$Paper", "java/lang/IllegalStateException"),
  ("ReportMill$Runner", "java/lang/IllegalStateException"),
  ("ReportMillModel", "java/lang/IllegalStateException"),
  ("ReportMillModel$Unit", "java/lang/IllegalStateException"),
  ("java/lang/IllegalArgumentException", "java/lang/IllegalStateException"),
  ("java/lang/IndexOutOfBoundsException", "java/lang/IllegalStateException"),
  ("ReportMillModel$Stopped", "java/lang/IllegalStateException"),
  ("ReportMill", "java/lang/IllegalArgumentException"),
  ("ReportMill$Table", "java/lang/IllegalArgumentException"),
  ("ReportMill$Tape", "java/lang/IllegalArgumentException"),
  ("ReportMill$Kind", "java/lang/IllegalArgumentException"),
  ("ReportMill$Program", "java/lang/IllegalArgumentException"),
  ("ReportMill$Definitions", "java/lang/IllegalArgumentException"),
  ("ReportMill$Code", "java/lang/IllegalArgumentException"),
  ("ReportMill$Expressions", "java/lang/IllegalArgumentException"),
  ("ReportMill$Compiler", "java/lang/IllegalArgumentException"),
  ("ReportMill$Machine", "java/lang/IllegalArgumentException"),
  ("ReportMill$Paper", "java/lang/IllegalArgumentException"),
  ("ReportMill$Runner", "java/lang/IllegalArgumentException"),
  ("ReportMillModel", "java/lang/IllegalArgumentException"),
  ("ReportMillModel$Unit", "java/lang/IllegalArgumentException"),
  ("java/lang/IllegalStateException", "java/lang/IllegalArgumentException"),
  ("java/lang/IndexOutOfBoundsException", "java/lang/IllegalArgumentException"),
  ("ReportMillModel$Stopped", "java/lang/IllegalArgumentException"),
  ("ReportMill", "java/lang/IndexOutOfBoundsException"),
  ("ReportMill$Table", "java/lang/IndexOutOfBoundsException"),
  ("ReportMill$Tape", "java/lang/IndexOutOfBoundsException"),
  ("ReportMill$Kind", "java/lang/IndexOutOfBoundsException"),
  ("ReportMill$Program", "java/lang/IndexOutOfBoundsException"),
  ("ReportMill$Definitions", "java/lang/IndexOutOfBoundsException"),
  ("ReportMill$Code", "java/lang/IndexOutOfBoundsException"),
  ("ReportMill$Expressions", "java/lang/IndexOutOfBoundsException"),
  ("ReportMill$Compiler", "java/lang/IndexOutOfBoundsException"),
  ("ReportMill$Machine", "java/lang/IndexOutOfBoundsException"),
  ("ReportMill$Paper", "java/lang/IndexOutOfBoundsException"),
  ("ReportMill$Runner", "java/lang/IndexOutOfBoundsException"),
  ("ReportMillModel", "java/lang/IndexOutOfBoundsException"),
  ("ReportMillModel$Unit", "java/lang/IndexOutOfBoundsException"),
  ("java/lang/IllegalStateException", "java/lang/IndexOutOfBoundsException"),
  ("java/lang/IllegalArgumentException", "java/lang/IndexOutOfBoundsException"),
  ("ReportMillModel$Stopped", "java/lang/IndexOutOfBoundsException"),
  ("ReportMill", "ReportMillModel$Stopped"),
  ("ReportMill$Table", "ReportMillModel$Stopped"),
  ("ReportMill$Tape", "ReportMillModel$Stopped"),
  ("ReportMill$Kind", "ReportMillModel$Stopped"),
  ("ReportMill$Program", "ReportMillModel$Stopped"),
  ("ReportMill$Definitions", "ReportMillModel$Stopped"),
  ("ReportMill$Code", "ReportMillModel$Stopped"),
  ("ReportMill$Expressions", "ReportMillModel$Stopped"),
  ("ReportMill$Compiler", "ReportMillModel$Stopped"),
  ("ReportMill$Machine", "ReportMillModel$Stopped"),
  ("ReportMill$Paper", "ReportMillModel$Stopped"),
  ("ReportMill$Runner", "ReportMillModel$Stopped"),
  ("ReportMillModel", "ReportMillModel$Stopped"),
  ("ReportMillModel$Unit", "ReportMillModel$Stopped"),
  ("java/lang/IllegalStateException", "ReportMillModel$Stopped"),
  ("java/lang/IllegalArgumentException", "ReportMillModel$Stopped"),
  ("java/lang/IndexOutOfBoundsException", "ReportMillModel$Stopped")]
def xNcs : List (String × String) × List Cond := (xNcl, xNws)
def xq_0_0 : xTab ((Nat × Nat) × xHt) := []
def xq_0_1 : xTab ((Nat × Nat × Bool) × xHt) := []
def xq_0_2 : xTab (Value × xHt) := []
def xq_0_3 : xTab (Nat × xHt) := [(77, [(8, (10, [(1, 31), (1, 32), (1, 1)])), (76, (12, [(6, 205), (6, 206), (1, 15)]))])]
def xq_0_4 : xTab (Unit × xHt) := []
def xq_0_5 : xTab (Unit × xHt) := []
def xq_0_6 : xTab (Value × xHt) := [(97, [(96, (.long 4294967295, [(10, 194)]))])]
def xq_0_7 : xTab ((Nat × Nat) × xHt) := [(43, [(7, ((166, 5), [(5, 3), (1, 1), (5, 6), (5, 4), (5, 5)])), (15, ((167, 1), [(5, 79), (1, 1), (5, 82), (5, 80), (5, 81)])), (21, ((168, 1), [(5, 101), (1, 1), (5, 104), (5, 102), (5, 103)])), (25, ((169, 1), [(5, 119), (1, 1), (5, 122), (5, 120), (5, 121)])), (29, ((170, 1), [(5, 139), (1, 1), (5, 142), (5, 140), (5, 141)])), (34, ((171, 2), [(5, 161), (1, 1), (5, 164), (5, 162), (5, 163)])), (38, ((172, 2), [(5, 168), (1, 1), (5, 171), (5, 169), (5, 170)])), (42, ((173, 1), [(5, 175), (1, 1), (5, 178), (5, 176), (5, 177)]))]),
  (69, [(45, ((174, 1), [(6, 13), (1, 1), (6, 16), (6, 14), (6, 15)])), (48, ((175, 0), [(6, 24), (1, 1), (6, 27), (6, 25), (6, 26)])), (52, ((176, 1), [(6, 157), (1, 1), (6, 160), (6, 158), (6, 159)])), (55, ((177, 1), [(6, 164), (1, 1), (6, 167), (6, 165), (6, 166)])), (58, ((178, 3), [(6, 171), (1, 1), (6, 174), (6, 172), (6, 173)])), (62, ((179, 2), [(6, 180), (1, 1), (6, 183), (6, 181), (6, 182)])), (65, ((180, 1), [(6, 187), (1, 1), (6, 190), (6, 188), (6, 189)])), (68, ((181, 1), [(6, 194), (1, 1), (6, 197), (6, 195), (6, 196)]))]),
  (92, [(72, ((182, 1), [(6, 201), (1, 1), (6, 204), (6, 202), (6, 203)])), (75, ((158, 0), [(1, 33), (1, 1), (1, 35), (1, 34)])), (78, ((184, 0), [(6, 207), (1, 15), (6, 209), (6, 208)])), (79, ((1, 7), [(4, 239), (1, 0), (5, 1), (5, 0)])), (84, ((187, 5), [(8, 100), (1, 15), (8, 103), (8, 101), (8, 102)])), (85, ((186, 0), [(8, 96), (1, 15), (8, 99), (8, 97), (8, 98)])), (88, ((2, 3), [(5, 75), (1, 0), (5, 77), (5, 76)])), (91, ((190, 1), [(8, 112), (1, 15), (8, 115), (8, 113), (8, 114)]))]),
  (109, [(92, ((3, 3), [(5, 98), (1, 0), (5, 100), (5, 99)])), (95, ((192, 1), [(8, 119), (1, 15), (8, 122), (8, 120), (8, 121)])), (98, ((4, 3), [(5, 116), (1, 0), (5, 118), (5, 117)])), (101, ((198, 1), [(8, 145), (1, 15), (8, 148), (8, 146), (8, 147)])), (102, ((159, 0), [(3, 5), (1, 1), (3, 8), (3, 6), (3, 7)])), (105, ((200, 0), [(8, 156), (1, 15), (8, 159), (8, 157), (8, 158)])), (106, ((5, 3), [(5, 135), (1, 0), (5, 137), (5, 136)])), (108, ((201, 1), [(8, 160), (1, 15), (8, 163), (8, 161), (8, 162)]))]),
  (125, [(109, ((6, 4), [(5, 158), (1, 0), (5, 160), (5, 159)])), (112, ((203, 2), [(8, 169), (1, 15), (8, 172), (8, 170), (8, 171)])), (113, ((160, 0), [(3, 13), (1, 1), (3, 16), (3, 14), (3, 15)])), (116, ((205, 0), [(8, 177), (1, 15), (8, 180), (8, 178), (8, 179)])), (117, ((161, 0), [(4, 192), (1, 1), (4, 195), (4, 193), (4, 194)])), (120, ((254, 0), [(9, 179), (1, 15), (9, 182), (9, 180), (9, 181)])), (121, ((162, 0), [(4, 196), (1, 1), (4, 199), (4, 197), (4, 198)])), (124, ((255, 0), [(9, 183), (1, 15), (9, 186), (9, 184), (9, 185)]))]),
  (140, [(125, ((7, 4), [(5, 165), (1, 0), (5, 167), (5, 166)])), (128, ((256, 2), [(9, 187), (1, 15), (9, 190), (9, 188), (9, 189)])), (129, ((8, 3), [(5, 172), (1, 0), (5, 174), (5, 173)])), (131, ((257, 1), [(9, 191), (1, 15), (9, 194), (9, 192), (9, 193)])), (132, ((163, 0), [(4, 200), (1, 1), (4, 203), (4, 201), (4, 202)])), (136, ((274, 0), [(10, 29), (1, 15), (10, 32), (10, 30), (10, 31)])), (137, ((9, 3), [(6, 10), (1, 0), (6, 12), (6, 11)])), (139, ((275, 1), [(10, 33), (1, 15), (10, 36), (10, 34), (10, 35)]))]),
  (154, [(140, ((10, 2), [(6, 21), (1, 0), (6, 23), (6, 22)])), (143, ((276, 0), [(10, 37), (1, 15), (10, 40), (10, 38), (10, 39)])), (144, ((11, 3), [(6, 154), (1, 0), (6, 156), (6, 155)])), (146, ((302, 1), [(10, 144), (1, 15), (10, 147), (10, 145), (10, 146)])), (147, ((12, 3), [(6, 161), (1, 0), (6, 163), (6, 162)])), (149, ((304, 1), [(10, 153), (1, 15), (10, 156), (10, 154), (10, 155)])), (150, ((13, 5), [(6, 168), (1, 0), (6, 170), (6, 169)])), (153, ((305, 3), [(10, 157), (1, 15), (10, 160), (10, 158), (10, 159)]))]),
  (166, [(154, ((14, 4), [(6, 177), (1, 0), (6, 179), (6, 178)])), (156, ((307, 2), [(10, 165), (1, 15), (10, 168), (10, 166), (10, 167)])), (157, ((15, 3), [(6, 184), (1, 0), (6, 186), (6, 185)])), (159, ((309, 1), [(10, 173), (1, 15), (10, 176), (10, 174), (10, 175)])), (160, ((16, 3), [(6, 191), (1, 0), (6, 193), (6, 192)])), (162, ((310, 1), [(10, 177), (1, 15), (10, 180), (10, 178), (10, 179)])), (163, ((17, 3), [(6, 198), (1, 0), (6, 200), (6, 199)])), (165, ((311, 1), [(10, 181), (1, 15), (10, 184), (10, 182), (10, 183)]))]),
  (175, [(166, ((164, 0), [(4, 208), (1, 1), (4, 211), (4, 209), (4, 210)])), (170, ((312, 0), [(10, 185), (1, 15), (10, 188), (10, 186), (10, 187)])), (171, ((165, 0), [(4, 216), (1, 1), (4, 219), (4, 217), (4, 218)])), (174, ((313, 0), [(10, 189), (1, 15), (10, 192), (10, 190), (10, 191)]))])]
def xq_0_8 : xTab (Nat × (List String × Nat)) := []
def xq_0_9 : xTab (Nat × xHt) := []
def xq_0_10 : xTab (Nat × xHt) := []
def xq_0_11 : xTab ((Nat × Nat × Nat) × xHt) := []
def xq_0 : xPool := ("ReportMillLaw", xq_0_0, xq_0_1, xq_0_2, xq_0_3, xq_0_4, xq_0_5, xq_0_6, xq_0_7, xq_0_8, xq_0_9, xq_0_10, xq_0_11)
def xq_1_0 : xTab ((Nat × Nat) × xHt) := [(29, [(9, ((0, 3), [(1, 190)])), (15, ((0, 4), [(1, 192)])), (25, ((0, 0), [(1, 180)])), (28, ((0, 1), [(1, 183)]))]),
  (37, [(32, ((0, 2), [(1, 186)])), (36, ((0, 5), [(1, 194)]))])]
def xq_1_1 : xTab ((Nat × Nat × Bool) × xHt) := [(29, [(9, ((0, 3, true), [(1, 190)])), (15, ((0, 4, true), [(1, 192)])), (25, ((0, 0, true), [(1, 180)])), (28, ((0, 1, true), [(1, 183)]))]),
  (37, [(32, ((0, 2, false), [(1, 186)])), (36, ((0, 5, false), [(1, 194)]))])]
def xq_1_2 : xTab (Value × xHt) := []
def xq_1_3 : xTab (Nat × xHt) := []
def xq_1_4 : xTab (Unit × xHt) := []
def xq_1_5 : xTab (Unit × xHt) := [(4, [(3, ((), [(1, 176), (1, 37), (1, 38)]))])]
def xq_1_6 : xTab (Value × xHt) := []
def xq_1_7 : xTab ((Nat × Nat) × xHt) := [(40, [(39, ((143, 1), [(3, 193), (1, 3), (3, 40), (3, 38), (3, 39)]))])]
def xq_1_8 : xTab (Nat × (List String × Nat)) := []
def xq_1_9 : xTab (Nat × xHt) := []
def xq_1_10 : xTab (Nat × xHt) := [(20, [(19, (0, [(1, 177), (1, 178), (1, 9), (1, 179)]))])]
def xq_1_11 : xTab ((Nat × Nat × Nat) × xHt) := []
def xq_1 : xPool := ("ReportMill$Code", xq_1_0, xq_1_1, xq_1_2, xq_1_3, xq_1_4, xq_1_5, xq_1_6, xq_1_7, xq_1_8, xq_1_9, xq_1_10, xq_1_11)
def xq_2_0 : xTab ((Nat × Nat) × xHt) := [(38, [(9, ((1, 0), [(2, 91)])), (15, ((1, 1), [(2, 92)])), (19, ((1, 2), [(2, 93)])), (23, ((1, 3), [(2, 94)])), (37, ((9, 8), [(1, 88)]))]),
  (128, [(41, ((100, 2), [(10, 199)])), (85, ((6, 3), [(1, 220)])), (88, ((9, 1), [(1, 79)])), (95, ((9, 11), [(1, 97)])), (127, ((6, 1), [(1, 214)]))]),
  (156, [(130, ((9, 9), [(1, 92)])), (140, ((6, 2), [(1, 216)])), (143, ((6, 4), [(1, 224)])), (152, ((6, 5), [(1, 227)])), (155, ((6, 6), [(1, 230)]))]),
  (190, [(159, ((6, 7), [(1, 234)])), (165, ((6, 8), [(1, 237)])), (168, ((6, 9), [(2, 1)])), (185, ((6, 11), [(2, 10)])), (189, ((0, 2), [(1, 187)]))]),
  (303, [(205, ((6, 10), [(2, 5)])), (271, ((6, 13), [(2, 15)])), (302, ((9, 10), [(1, 96)]))])]
def xq_2_1 : xTab ((Nat × Nat × Bool) × xHt) := [(24, [(9, ((1, 0, true), [(2, 91)])), (15, ((1, 1, true), [(2, 92)])), (19, ((1, 2, true), [(2, 93)])), (23, ((1, 3, true), [(2, 94)]))]),
  (141, [(85, ((6, 3, false), [(1, 220)])), (98, ((6, 0, false), [(1, 211)])), (127, ((6, 1, false), [(1, 214)])), (140, ((6, 2, false), [(1, 216)]))]),
  (160, [(143, ((6, 4, false), [(1, 224)])), (159, ((6, 7, false), [(1, 234)]))])]
def xq_2_2 : xTab (Value × xHt) := [(147, [(50, (.ref 13, [(4, 90), (13, 0)])), (65, (.ref 21, [(4, 159), (21, 0)])), (76, (.ref 65, [(4, 177), (65, 0)])), (102, (.ref 68, [(3, 96), (68, 0)])), (146, (.ref 2, [(3, 133), (2, 0)]))]),
  (221, [(182, (.ref 50, [(3, 168), (50, 0)])), (198, (.ref 4, [(4, 58), (4, 0)])), (211, (.ref 6, [(4, 74), (6, 0)])), (214, (.ref 12, [(4, 76), (12, 0)])), (220, (.ref 7, [(4, 88), (7, 0)]))]),
  (250, [(223, (.ref 0, [(4, 82), (0, 0)])), (233, (.ref 17, [(4, 103), (17, 0)])), (236, (.ref 19, [(4, 105), (19, 0)])), (246, (.ref 22, [(4, 119), (22, 0)])), (249, (.ref 24, [(4, 121), (24, 0)]))]),
  (287, [(268, (.ref 29, [(4, 169), (29, 0)])), (274, (.ref 30, [(4, 171), (30, 0)])), (277, (.ref 23, [(4, 127), (23, 0)])), (283, (.ref 31, [(4, 135), (31, 0)])), (286, (.ref 32, [(4, 137), (32, 0)]))]),
  (310, [(292, (.ref 49, [(4, 143), (49, 0)])), (295, (.ref 33, [(4, 149), (33, 0)])), (306, (.ref 63, [(3, 120), (63, 0)])), (309, (.ref 62, [(3, 143), (62, 0)]))])]
def xq_2_3 : xTab (Nat × xHt) := []
def xq_2_4 : xTab (Unit × xHt) := []
def xq_2_5 : xTab (Unit × xHt) := [(4, [(3, ((), [(2, 90), (1, 37), (1, 38)]))])]
def xq_2_6 : xTab (Value × xHt) := []
def xq_2_7 : xTab ((Nat × Nat) × xHt) := [(62, [(27, ((98, 0), [(3, 25), (1, 6), (3, 28), (3, 26), (3, 27)])), (32, ((142, 0), [(3, 33), (1, 3), (3, 36), (3, 34), (3, 35)])), (47, ((27, 0), [(3, 92), (1, 11), (3, 95), (3, 94), (0, 7)])), (53, ((100, 3), [(4, 92), (1, 6), (4, 95), (4, 93), (4, 94)])), (57, ((39, 1), [(4, 96), (1, 11), (4, 99), (4, 98), (0, 34)])), (61, ((41, 2), [(4, 115), (1, 11), (4, 118), (4, 117), (0, 35)]))]),
  (109, [(68, ((30, 1), [(3, 121), (1, 11), (3, 124), (3, 123), (0, 10)])), (72, ((106, 1), [(4, 173), (1, 6), (4, 176), (4, 174), (4, 175)])), (79, ((155, 0), [(3, 125), (1, 3), (3, 128), (3, 126), (3, 127)])), (82, ((107, 1), [(4, 178), (1, 6), (4, 181), (4, 179), (4, 180)])), (91, ((153, 2), [(3, 108), (1, 3), (3, 111), (3, 109), (3, 110)])), (108, ((318, 0), [(3, 98), (1, 4), (3, 103), (3, 102), (3, 101), (3, 99), (99, 5)]))]),
  (134, [(112, ((28, 0), [(3, 104), (1, 11), (3, 107), (3, 106), (0, 8)])), (115, ((31, 0), [(3, 129), (1, 11), (3, 132), (3, 131), (0, 11)])), (118, ((33, 0), [(3, 144), (1, 11), (3, 147), (3, 146), (0, 13)])), (121, ((34, 0), [(3, 152), (1, 11), (3, 155), (3, 154), (0, 14)])), (124, ((36, 0), [(4, 64), (1, 11), (4, 67), (4, 66), (0, 31)])), (133, ((154, 0), [(3, 112), (1, 3), (3, 115), (3, 113), (3, 114)]))]),
  (195, [(136, ((29, 2), [(3, 116), (1, 11), (3, 119), (3, 118), (0, 9)])), (149, ((32, 0), [(3, 135), (1, 11), (3, 138), (3, 137), (0, 12)])), (162, ((99, 1), [(3, 148), (1, 6), (3, 151), (3, 149), (3, 150)])), (172, ((47, 0), [(3, 156), (1, 7), (3, 159), (3, 157), (3, 158)])), (178, ((35, 0), [(3, 160), (1, 11), (3, 163), (3, 162), (0, 15)])), (194, ((51, 3), [(3, 170), (1, 10), (3, 173), (3, 171), (3, 172)]))]),
  (240, [(201, ((49, 5), [(4, 60), (1, 7), (4, 63), (4, 61), (4, 62)])), (208, ((316, 0), [(4, 68), (1, 5), (4, 71), (4, 69), (4, 70)])), (217, ((37, 0), [(4, 78), (1, 11), (4, 81), (4, 80), (0, 32)])), (226, ((38, 0), [(4, 84), (1, 11), (4, 87), (4, 86), (0, 33)])), (229, ((40, 1), [(4, 100), (1, 11), (4, 102), (4, 101)])), (239, ((101, 1), [(4, 107), (1, 6), (4, 110), (4, 108), (4, 109)]))]),
  (266, [(243, ((102, 2), [(4, 111), (1, 6), (4, 114), (4, 112), (4, 113)])), (252, ((42, 1), [(4, 123), (1, 11), (4, 126), (4, 125), (0, 36)])), (255, ((103, 2), [(4, 145), (1, 6), (4, 148), (4, 146), (4, 147)])), (258, ((44, 2), [(4, 155), (1, 11), (4, 158), (4, 157), (0, 38)])), (261, ((45, 3), [(4, 161), (1, 11), (4, 164), (4, 163), (0, 39)])), (265, ((105, 2), [(4, 165), (1, 6), (4, 168), (4, 166), (4, 167)]))]),
  (319, [(280, ((317, 0), [(4, 129), (1, 5), (4, 132), (4, 130), (4, 131)])), (289, ((43, 1), [(4, 139), (1, 11), (4, 142), (4, 141), (0, 37)])), (298, ((104, 2), [(4, 151), (1, 6), (4, 154), (4, 152), (4, 153)])), (312, ((132, 1), [(3, 139), (1, 2), (3, 142), (3, 140), (3, 141)])), (318, ((48, 1), [(3, 164), (1, 7), (3, 167), (3, 165), (3, 166)]))])]
def xq_2_8 : xTab (Nat × (List String × Nat)) := []
def xq_2_9 : xTab (Nat × xHt) := []
def xq_2_10 : xTab (Nat × xHt) := []
def xq_2_11 : xTab ((Nat × Nat × Nat) × xHt) := []
def xq_2 : xPool := ("ReportMill$Compiler", xq_2_0, xq_2_1, xq_2_2, xq_2_3, xq_2_4, xq_2_5, xq_2_6, xq_2_7, xq_2_8, xq_2_9, xq_2_10, xq_2_11)
def xq_3_0 : xTab ((Nat × Nat) × xHt) := [(24, [(9, ((2, 1), [(1, 148)])), (13, ((2, 2), [(1, 149)])), (17, ((2, 3), [(1, 152)])), (23, ((2, 4), [(1, 154)]))]),
  (31, [(27, ((2, 5), [(1, 156)])), (30, ((2, 0), [(1, 144)]))])]
def xq_3_1 : xTab ((Nat × Nat × Bool) × xHt) := [(24, [(9, ((2, 1, true), [(1, 148)])), (13, ((2, 2, true), [(1, 149)])), (17, ((2, 3, true), [(1, 152)])), (23, ((2, 4, true), [(1, 154)]))]),
  (31, [(27, ((2, 5, true), [(1, 156)])), (30, ((2, 0, false), [(1, 144)]))])]
def xq_3_2 : xTab (Value × xHt) := []
def xq_3_3 : xTab (Nat × xHt) := []
def xq_3_4 : xTab (Unit × xHt) := [(22, [(21, ((), [(1, 143)]))])]
def xq_3_5 : xTab (Unit × xHt) := [(2, [(1, ((), [(1, 142), (1, 37), (1, 38)]))])]
def xq_3_6 : xTab (Value × xHt) := []
def xq_3_7 : xTab ((Nat × Nat) × xHt) := []
def xq_3_8 : xTab (Nat × (List String × Nat)) := []
def xq_3_9 : xTab (Nat × xHt) := []
def xq_3_10 : xTab (Nat × xHt) := []
def xq_3_11 : xTab ((Nat × Nat × Nat) × xHt) := []
def xq_3 : xPool := ("ReportMill$Definitions", xq_3_0, xq_3_1, xq_3_2, xq_3_3, xq_3_4, xq_3_5, xq_3_6, xq_3_7, xq_3_8, xq_3_9, xq_3_10, xq_3_11)
def xq_4_0 : xTab ((Nat × Nat) × xHt) := [(24, [(9, ((3, 0), [(2, 69)])), (15, ((3, 1), [(2, 70)])), (19, ((3, 2), [(2, 71)])), (23, ((6, 11), [(2, 8)]))]),
  (59, [(29, ((3, 3), [(2, 72)])), (30, ((3, 4), [(2, 73)])), (54, ((9, 8), [(1, 89)])), (58, ((100, 2), [(10, 201)]))]),
  (154, [(73, ((9, 9), [(1, 91)])), (92, ((100, 3), [(10, 202)])), (98, ((9, 10), [(1, 95)])), (153, ((6, 9), [(2, 2)]))]),
  (165, [(160, ((2, 2), [(1, 151)])), (164, ((6, 10), [(2, 6)]))])]
def xq_4_1 : xTab ((Nat × Nat × Bool) × xHt) := [(30, [(9, ((3, 0, true), [(2, 69)])), (15, ((3, 1, true), [(2, 70)])), (19, ((3, 2, true), [(2, 71)])), (29, ((3, 3, false), [(2, 72)]))]),
  (35, [(30, ((3, 4, false), [(2, 73)])), (34, ((9, 7, false), [(1, 85)]))])]
def xq_4_2 : xTab (Value × xHt) := [(188, [(86, (.ref 56, [(4, 47), (56, 0)])), (102, (.ref 68, [(3, 182), (68, 0)])), (136, (.ref 45, [(4, 29), (45, 0)])), (187, (.ref 46, [(4, 4), (46, 0)]))]),
  (200, [(190, (.ref 37, [(4, 6), (37, 0)])), (193, (.ref 38, [(4, 8), (38, 0)])), (196, (.ref 39, [(4, 10), (39, 0)])), (199, (.ref 48, [(4, 12), (48, 0)]))]),
  (215, [(205, (.ref 40, [(4, 21), (40, 0)])), (208, (.ref 41, [(4, 23), (41, 0)])), (211, (.ref 8, [(4, 17), (8, 0)])), (214, (.ref 9, [(4, 19), (9, 0)]))]),
  (221, [(217, (.ref 66, [(3, 214), (66, 0)])), (220, (.ref 47, [(3, 238), (47, 0)]))])]
def xq_4_3 : xTab (Nat × xHt) := []
def xq_4_4 : xTab (Unit × xHt) := []
def xq_4_5 : xTab (Unit × xHt) := [(4, [(3, ((), [(2, 68), (1, 37), (1, 38)]))])]
def xq_4_6 : xTab (Value × xHt) := [(44, [(43, (.int 1000000, [(4, 57)]))])]
def xq_4_7 : xTab ((Nat × Nat) × xHt) := [(67, [(39, ((52, 2), [(3, 174), (1, 10), (3, 177), (3, 176), (0, 16)])), (46, ((20, 2), [(3, 185), (1, 8), (3, 188), (3, 186), (3, 187)])), (50, ((53, 1), [(3, 178), (1, 10), (3, 181), (3, 180), (0, 17)])), (63, ((63, 2), [(4, 31), (1, 10), (4, 34), (4, 33), (0, 26)])), (66, ((64, 2), [(4, 39), (1, 10), (4, 42), (4, 41), (0, 27)]))]),
  (90, [(69, ((65, 3), [(4, 43), (1, 10), (4, 46), (4, 45), (0, 28)])), (76, ((154, 0), [(3, 184), (1, 3), (3, 115), (3, 113), (3, 114)])), (79, ((24, 1), [(4, 35), (1, 8), (4, 38), (4, 36), (4, 37)])), (83, ((57, 3), [(3, 226), (1, 10), (3, 229), (3, 228), (0, 21)])), (89, ((66, 1), [(4, 49), (1, 10), (4, 52), (4, 51), (0, 29)]))]),
  (121, [(95, ((67, 3), [(4, 53), (1, 10), (4, 56), (4, 55), (0, 30)])), (108, ((318, 0), [(3, 183), (1, 4), (3, 103), (3, 102), (3, 101), (3, 99), (99, 5)])), (112, ((21, 3), [(3, 189), (1, 8), (3, 192), (3, 190), (3, 191)])), (116, ((54, 2), [(3, 194), (1, 10), (3, 197), (3, 196), (0, 18)])), (120, ((55, 2), [(3, 205), (1, 10), (3, 208), (3, 207), (0, 19)]))]),
  (140, [(123, ((58, 1), [(3, 230), (1, 10), (3, 233), (3, 232), (0, 22)])), (126, ((60, 1), [(4, 0), (1, 10), (4, 3), (4, 2), (0, 24)])), (129, ((62, 1), [(4, 25), (1, 10), (4, 28), (4, 27), (0, 25)])), (133, ((155, 0), [(3, 213), (1, 3), (3, 128), (3, 126), (3, 127)])), (139, ((153, 2), [(3, 204), (1, 3), (3, 111), (3, 109), (3, 110)]))]),
  (171, [(143, ((132, 1), [(3, 198), (1, 2), (3, 142), (3, 140), (3, 141)])), (149, ((133, 1), [(3, 199), (1, 2), (3, 202), (3, 200), (3, 201)])), (157, ((48, 1), [(3, 203), (1, 7), (3, 167), (3, 165), (3, 166)])), (167, ((56, 1), [(3, 209), (1, 10), (3, 212), (3, 211), (0, 20)])), (170, ((22, 1), [(3, 215), (1, 8), (3, 218), (3, 216), (3, 217)]))]),
  (203, [(174, ((69, 3), [(3, 219), (1, 12), (3, 221), (3, 220)])), (180, ((23, 2), [(3, 222), (1, 8), (3, 225), (3, 223), (3, 224)])), (184, ((59, 0), [(3, 234), (1, 10), (3, 237), (3, 236), (0, 23)])), (202, ((61, 1), [(4, 14), (1, 10), (4, 16), (4, 15)]))])]
def xq_4_8 : xTab (Nat × (List String × Nat)) := []
def xq_4_9 : xTab (Nat × xHt) := []
def xq_4_10 : xTab (Nat × xHt) := []
def xq_4_11 : xTab ((Nat × Nat × Nat) × xHt) := []
def xq_4 : xPool := ("ReportMill$Expressions", xq_4_0, xq_4_1, xq_4_2, xq_4_3, xq_4_4, xq_4_5, xq_4_6, xq_4_7, xq_4_8, xq_4_9, xq_4_10, xq_4_11)
def xq_5_0 : xTab ((Nat × Nat) × xHt) := [(26, [(13, ((4, 1), [(2, 111)])), (17, ((4, 2), [(2, 114)])), (21, ((4, 3), [(2, 116)])), (25, ((4, 4), [(2, 119)]))]),
  (67, [(29, ((4, 0), [(2, 110)])), (33, ((8, 0), [(1, 46)])), (63, ((0, 2), [(1, 188)])), (66, ((0, 0), [(1, 181)]))]),
  (120, [(69, ((0, 1), [(1, 184)])), (113, ((0, 5), [(1, 195)])), (116, ((0, 4), [(1, 193)])), (119, ((0, 3), [(1, 191)]))])]
def xq_5_1 : xTab ((Nat × Nat × Bool) × xHt) := [(26, [(13, ((4, 1, true), [(2, 111)])), (17, ((4, 2, true), [(2, 114)])), (21, ((4, 3, true), [(2, 116)])), (25, ((4, 4, true), [(2, 119)]))]),
  (30, [(29, ((4, 0, true), [(2, 110)]))])]
def xq_5_2 : xTab (Value × xHt) := []
def xq_5_3 : xTab (Nat × xHt) := []
def xq_5_4 : xTab (Unit × xHt) := []
def xq_5_5 : xTab (Unit × xHt) := [(8, [(7, ((), [(2, 109), (1, 37), (1, 38)]))])]
def xq_5_6 : xTab (Value × xHt) := [(125, [(122, (.long 10, [(6, 2)])), (124, (.long 48, [(6, 3)]))])]
def xq_5_7 : xTab ((Nat × Nat) × xHt) := [(49, [(37, ((134, 2), [(5, 192), (1, 2), (4, 225), (4, 223), (4, 224)])), (41, ((133, 1), [(5, 193), (1, 2), (3, 202), (3, 200), (3, 201)])), (44, ((73, 2), [(5, 194), (1, 12), (5, 197), (5, 196), (0, 42)])), (48, ((71, 2), [(5, 202), (1, 12), (5, 182), (5, 180), (5, 181)]))]),
  (77, [(51, ((85, 2), [(6, 4), (1, 12), (6, 7), (6, 6), (0, 49)])), (55, ((319, 2), [(6, 153), (1, 30), (6, 68), (6, 67)])), (72, ((76, 4), [(5, 207), (1, 12), (5, 210), (5, 209), (0, 43)])), (76, ((79, 1), [(5, 219), (1, 12), (5, 221), (5, 220)]))]),
  (92, [(80, ((80, 2), [(5, 222), (1, 12), (5, 225), (5, 224), (0, 45)])), (84, ((77, 3), [(5, 211), (1, 12), (5, 214), (5, 213), (0, 44)])), (88, ((78, 2), [(5, 215), (1, 12), (5, 218), (5, 216), (5, 217)])), (91, ((81, 1), [(5, 226), (1, 12), (5, 229), (5, 228), (0, 46)]))]),
  (107, [(95, ((82, 3), [(5, 230), (1, 12), (5, 233), (5, 232), (0, 47)])), (99, ((83, 2), [(5, 234), (1, 12), (5, 237), (5, 236), (0, 48)])), (102, ((84, 2), [(5, 238), (1, 12), (6, 1), (5, 239), (6, 0)])), (106, ((69, 3), [(6, 8), (1, 12), (3, 221), (3, 220)]))]),
  (111, [(110, ((74, 2), [(5, 198), (1, 12), (5, 201), (5, 199), (5, 200)]))])]
def xq_5_8 : xTab (Nat × (List String × Nat)) := []
def xq_5_9 : xTab (Nat × xHt) := []
def xq_5_10 : xTab (Nat × xHt) := []
def xq_5_11 : xTab ((Nat × Nat × Nat) × xHt) := []
def xq_5 : xPool := ("ReportMill$Machine", xq_5_0, xq_5_1, xq_5_2, xq_5_3, xq_5_4, xq_5_5, xq_5_6, xq_5_7, xq_5_8, xq_5_9, xq_5_10, xq_5_11)
def xq_6_0 : xTab ((Nat × Nat) × xHt) := [(22, [(10, ((5, 3), [(2, 145)])), (14, ((5, 0), [(2, 138)])), (18, ((5, 1), [(2, 140)])), (21, ((5, 2), [(2, 142)]))])]
def xq_6_1 : xTab ((Nat × Nat × Bool) × xHt) := [(22, [(10, ((5, 3, true), [(2, 145)])), (14, ((5, 0, false), [(2, 138)])), (18, ((5, 1, false), [(2, 140)])), (21, ((5, 2, false), [(2, 142)]))])]
def xq_6_2 : xTab (Value × xHt) := []
def xq_6_3 : xTab (Nat × xHt) := []
def xq_6_4 : xTab (Unit × xHt) := []
def xq_6_5 : xTab (Unit × xHt) := [(4, [(3, ((), [(2, 136), (1, 37), (1, 38)]))])]
def xq_6_6 : xTab (Value × xHt) := [(33, [(9, (.int 72000, [(2, 137)])), (32, (.long 31, [(4, 230)]))])]
def xq_6_7 : xTab ((Nat × Nat) × xHt) := [(35, [(24, ((92, 3), [(4, 235), (1, 13), (4, 238), (4, 237), (0, 40)])), (28, ((95, 2), [(6, 96), (1, 13), (6, 99), (6, 97), (6, 98)])), (34, ((91, 3), [(4, 231), (1, 13), (4, 234), (4, 232), (4, 233)]))])]
def xq_6_8 : xTab (Nat × (List String × Nat)) := []
def xq_6_9 : xTab (Nat × xHt) := []
def xq_6_10 : xTab (Nat × xHt) := []
def xq_6_11 : xTab ((Nat × Nat × Nat) × xHt) := []
def xq_6 : xPool := ("ReportMill$Paper", xq_6_0, xq_6_1, xq_6_2, xq_6_3, xq_6_4, xq_6_5, xq_6_6, xq_6_7, xq_6_8, xq_6_9, xq_6_10, xq_6_11)
def xq_7_0 : xTab ((Nat × Nat) × xHt) := [(38, [(19, ((6, 8), [(1, 236)])), (25, ((6, 9), [(1, 239)])), (29, ((6, 10), [(2, 3)])), (37, ((6, 11), [(2, 9)]))]),
  (54, [(41, ((6, 12), [(2, 13)])), (46, ((6, 14), [(2, 16)])), (50, ((6, 15), [(2, 18)])), (53, ((6, 16), [(2, 20)]))]),
  (86, [(56, ((6, 17), [(2, 22)])), (76, ((6, 7), [(1, 232)])), (85, ((6, 13), [(2, 14)]))])]
def xq_7_1 : xTab ((Nat × Nat × Bool) × xHt) := [(26, [(11, ((6, 5, true), [(1, 226)])), (15, ((6, 6, true), [(1, 229)])), (19, ((6, 8, true), [(1, 236)])), (25, ((6, 9, true), [(1, 239)]))]),
  (47, [(29, ((6, 10, true), [(2, 3)])), (37, ((6, 11, true), [(2, 9)])), (41, ((6, 12, true), [(2, 13)])), (46, ((6, 14, true), [(2, 16)]))]),
  (60, [(50, ((6, 15, true), [(2, 18)])), (53, ((6, 16, true), [(2, 20)])), (56, ((6, 17, true), [(2, 22)])), (59, ((6, 0, false), [(1, 210)]))]),
  (74, [(63, ((6, 1, false), [(1, 213)])), (66, ((6, 2, false), [(1, 215)])), (70, ((6, 3, false), [(1, 219)])), (73, ((6, 4, false), [(1, 223)]))]),
  (86, [(76, ((6, 7, false), [(1, 232)])), (79, ((2, 0, false), [(1, 145)])), (85, ((6, 13, false), [(2, 14)]))])]
def xq_7_2 : xTab (Value × xHt) := [(100, [(99, (.ref 24, [(4, 191), (24, 0)]))])]
def xq_7_3 : xTab (Nat × xHt) := [(33, [(22, (2, [(1, 137), (1, 138), (1, 7)])), (32, (0, [(1, 171), (1, 172), (1, 8)]))])]
def xq_7_4 : xTab (Unit × xHt) := [(45, [(44, ((), [(1, 209)]))])]
def xq_7_5 : xTab (Unit × xHt) := [(4, [(3, ((), [(1, 136), (1, 37), (1, 38)]))])]
def xq_7_6 : xTab (Value × xHt) := []
def xq_7_7 : xTab ((Nat × Nat) × xHt) := [(89, [(24, ((46, 0), [(99, 3), (1, 7), (1, 141), (1, 140)])), (34, ((18, 1), [(1, 173), (1, 8), (1, 175), (1, 174)])), (82, ((19, 0), [(3, 29), (1, 8), (3, 32), (3, 30), (3, 31)])), (88, ((101, 1), [(4, 186), (1, 6), (4, 110), (4, 108), (4, 109)]))]),
  (97, [(92, ((108, 1), [(4, 182), (1, 6), (4, 185), (4, 183), (4, 184)])), (96, ((109, 1), [(4, 187), (1, 6), (4, 190), (4, 188), (4, 189)]))])]
def xq_7_8 : xTab (Nat × (List String × Nat)) := []
def xq_7_9 : xTab (Nat × xHt) := []
def xq_7_10 : xTab (Nat × xHt) := []
def xq_7_11 : xTab ((Nat × Nat × Nat) × xHt) := []
def xq_7 : xPool := ("ReportMill$Program", xq_7_0, xq_7_1, xq_7_2, xq_7_3, xq_7_4, xq_7_5, xq_7_6, xq_7_7, xq_7_8, xq_7_9, xq_7_10, xq_7_11)
def xq_8_0 : xTab ((Nat × Nat) × xHt) := [(37, [(11, ((7, 9), [(2, 175)])), (19, ((7, 10), [(2, 177)])), (24, ((7, 11), [(2, 179)])), (28, ((7, 0), [(2, 161)])), (32, ((7, 1), [(2, 162)])), (36, ((7, 2), [(2, 163)]))]),
  (74, [(40, ((7, 3), [(2, 164)])), (51, ((7, 6), [(2, 169)])), (54, ((7, 7), [(2, 171)])), (57, ((7, 8), [(2, 173)])), (60, ((5, 2), [(2, 143)])), (73, ((6, 7), [(1, 233)]))]),
  (134, [(102, ((7, 14), [(2, 182)])), (111, ((7, 12), [(2, 180)])), (114, ((6, 3), [(1, 221)])), (117, ((7, 13), [(2, 181)])), (120, ((6, 2), [(1, 217)])), (133, ((6, 9), [(2, 0)]))]),
  (171, [(137, ((2, 0), [(1, 146)])), (140, ((2, 2), [(1, 150)])), (147, ((6, 10), [(2, 4)])), (160, ((6, 4), [(1, 225)])), (163, ((6, 5), [(1, 228)])), (170, ((6, 6), [(1, 231)]))]),
  (212, [(173, ((6, 8), [(1, 238)])), (176, ((6, 11), [(2, 11)])), (180, ((2, 3), [(1, 153)])), (190, ((2, 5), [(1, 157)])), (193, ((2, 4), [(1, 155)])), (211, ((4, 2), [(2, 115)]))]),
  (267, [(222, ((7, 15), [(2, 183)])), (225, ((6, 17), [(2, 23)])), (228, ((6, 15), [(2, 19)])), (231, ((6, 14), [(2, 17)])), (254, ((6, 16), [(2, 21)])), (266, ((4, 1), [(2, 113)]))]),
  (273, [(272, ((4, 3), [(2, 118)]))])]
def xq_8_1 : xTab ((Nat × Nat × Bool) × xHt) := [(29, [(11, ((7, 9, true), [(2, 175)])), (19, ((7, 10, true), [(2, 177)])), (24, ((7, 11, true), [(2, 179)])), (28, ((7, 0, true), [(2, 161)]))]),
  (45, [(32, ((7, 1, true), [(2, 162)])), (36, ((7, 2, true), [(2, 163)])), (40, ((7, 3, true), [(2, 164)])), (44, ((7, 4, false), [(2, 165)]))]),
  (58, [(48, ((7, 5, false), [(2, 167)])), (51, ((7, 6, false), [(2, 169)])), (54, ((7, 7, false), [(2, 171)])), (57, ((7, 8, false), [(2, 173)]))]),
  (118, [(60, ((5, 2, false), [(2, 143)])), (102, ((7, 14, false), [(2, 182)])), (111, ((7, 12, false), [(2, 180)])), (117, ((7, 13, false), [(2, 181)]))]),
  (223, [(222, ((7, 15, false), [(2, 183)]))])]
def xq_8_2 : xTab (Value × xHt) := [(264, [(201, (.ref 68, [(6, 115), (68, 0)])), (234, (.ref 27, [(6, 109), (27, 0)])), (257, (.ref 23, [(6, 79), (23, 0)])), (263, (.ref 22, [(6, 100), (22, 0)]))]),
  (289, [(285, (.ref 31, [(6, 89), (31, 0)])), (288, (.ref 32, [(6, 90), (32, 0)]))])]
def xq_8_3 : xTab (Nat × xHt) := []
def xq_8_4 : xTab (Unit × xHt) := []
def xq_8_5 : xTab (Unit × xHt) := [(4, [(3, ((), [(2, 160), (1, 37), (1, 38)]))])]
def xq_8_6 : xTab (Value × xHt) := []
def xq_8_7 : xTab ((Nat × Nat) × xHt) := [(87, [(65, ((113, 1), [(6, 32), (1, 14), (6, 35), (6, 34), (0, 50)])), (69, ((131, 0), [(6, 52), (1, 2), (3, 12), (3, 10), (3, 11)])), (76, ((117, 0), [(6, 69), (1, 14), (6, 72), (6, 71), (0, 54)])), (79, ((108, 1), [(6, 73), (1, 6), (4, 185), (4, 183), (4, 184)])), (83, ((109, 1), [(6, 74), (1, 6), (4, 190), (4, 188), (4, 189)])), (86, ((121, 3), [(6, 105), (1, 14), (6, 108), (6, 107), (0, 57)]))]),
  (109, [(90, ((125, 1), [(6, 128), (1, 14), (6, 131), (6, 130), (0, 61)])), (93, ((126, 1), [(6, 132), (1, 14), (6, 135), (6, 134), (0, 62)])), (96, ((127, 1), [(6, 137), (1, 14), (6, 140), (6, 139), (0, 63)])), (99, ((128, 0), [(6, 141), (1, 14), (6, 144), (6, 143), (0, 64)])), (105, ((118, 3), [(6, 75), (1, 14), (6, 78), (6, 77), (0, 55)])), (108, ((107, 1), [(6, 36), (1, 6), (4, 181), (4, 179), (4, 180)]))]),
  (154, [(123, ((93, 2), [(6, 37), (1, 13), (6, 40), (6, 38), (6, 39)])), (126, ((72, 1), [(6, 41), (1, 12), (5, 191), (5, 189), (5, 190)])), (129, ((71, 2), [(6, 42), (1, 12), (5, 182), (5, 180), (5, 181)])), (143, ((74, 2), [(6, 43), (1, 12), (5, 201), (5, 199), (5, 200)])), (150, ((114, 1), [(6, 44), (1, 14), (6, 47), (6, 46), (0, 51)])), (153, ((115, 0), [(6, 48), (1, 14), (6, 51), (6, 50), (0, 52)]))]),
  (207, [(156, ((116, 2), [(6, 53), (1, 14), (6, 56), (6, 55), (0, 53)])), (166, ((139, 3), [(6, 57), (1, 2), (6, 60), (6, 58), (6, 59)])), (183, ((75, 2), [(6, 80), (1, 12), (5, 206), (5, 204), (5, 205)])), (187, ((78, 2), [(6, 136), (1, 12), (5, 218), (5, 216), (5, 217)])), (197, ((129, 3), [(6, 145), (1, 14), (6, 148), (6, 147), (0, 65)])), (206, ((318, 0), [(6, 116), (1, 4), (3, 103), (3, 102), (3, 101), (3, 99), (99, 5)]))]),
  (261, [(215, ((87, 2), [(6, 149), (1, 12), (6, 152), (6, 150), (6, 151)])), (219, ((96, 0), [(6, 101), (1, 13), (6, 104), (6, 102), (6, 103)])), (238, ((122, 3), [(6, 111), (1, 14), (6, 114), (6, 113), (0, 58)])), (241, ((124, 2), [(6, 121), (1, 14), (6, 124), (6, 123), (0, 60)])), (250, ((123, 1), [(6, 117), (1, 14), (6, 120), (6, 119), (0, 59)])), (260, ((119, 3), [(6, 81), (1, 14), (6, 84), (6, 83), (0, 56)]))]),
  (283, [(269, ((84, 2), [(6, 85), (1, 12), (6, 1), (5, 239), (6, 0)])), (275, ((120, 2), [(6, 86), (1, 14), (6, 88), (6, 87)])), (279, ((86, 2), [(6, 91), (1, 12), (6, 20), (6, 18), (6, 19)])), (282, ((94, 3), [(6, 92), (1, 13), (6, 95), (6, 93), (6, 94)]))])]
def xq_8_8 : xTab (Nat × (List String × Nat)) := []
def xq_8_9 : xTab (Nat × xHt) := []
def xq_8_10 : xTab (Nat × xHt) := [(246, [(245, (1, [(6, 125), (6, 126), (1, 9), (6, 127)]))])]
def xq_8_11 : xTab ((Nat × Nat × Nat) × xHt) := []
def xq_8 : xPool := ("ReportMill$Runner", xq_8_0, xq_8_1, xq_8_2, xq_8_3, xq_8_4, xq_8_5, xq_8_6, xq_8_7, xq_8_8, xq_8_9, xq_8_10, xq_8_11)
def xq_9_0 : xTab ((Nat × Nat) × xHt) := [(21, [(9, ((8, 2), [(1, 50)])), (13, ((8, 3), [(1, 51)])), (17, ((8, 4), [(1, 52)])), (20, ((8, 0), [(1, 45)]))]),
  (25, [(24, ((8, 1), [(1, 48)]))])]
def xq_9_1 : xTab ((Nat × Nat × Bool) × xHt) := [(21, [(9, ((8, 2, true), [(1, 50)])), (13, ((8, 3, true), [(1, 51)])), (17, ((8, 4, true), [(1, 52)])), (20, ((8, 0, false), [(1, 45)]))]),
  (25, [(24, ((8, 1, false), [(1, 48)]))])]
def xq_9_2 : xTab (Value × xHt) := []
def xq_9_3 : xTab (Nat × xHt) := []
def xq_9_4 : xTab (Unit × xHt) := []
def xq_9_5 : xTab (Unit × xHt) := [(2, [(1, ((), [(1, 44), (1, 37), (1, 38)]))])]
def xq_9_6 : xTab (Value × xHt) := [(49, [(48, (.long 255, [(5, 134)]))])]
def xq_9_7 : xTab ((Nat × Nat) × xHt) := [(40, [(27, ((138, 1), [(5, 131), (1, 2), (5, 133), (5, 132)])), (31, ((134, 2), [(6, 61), (1, 2), (4, 225), (4, 223), (4, 224)])), (35, ((133, 1), [(6, 62), (1, 2), (3, 202), (3, 200), (3, 201)])), (39, ((140, 1), [(6, 63), (1, 2), (6, 65), (6, 64)]))]),
  (43, [(42, ((319, 2), [(6, 66), (1, 30), (6, 68), (6, 67)]))])]
def xq_9_8 : xTab (Nat × (List String × Nat)) := []
def xq_9_9 : xTab (Nat × xHt) := []
def xq_9_10 : xTab (Nat × xHt) := []
def xq_9_11 : xTab ((Nat × Nat × Nat) × xHt) := []
def xq_9 : xPool := ("ReportMill$Table", xq_9_0, xq_9_1, xq_9_2, xq_9_3, xq_9_4, xq_9_5, xq_9_6, xq_9_7, xq_9_8, xq_9_9, xq_9_10, xq_9_11)
def xq_10_0 : xTab ((Nat × Nat) × xHt) := [(24, [(9, ((9, 0), [(1, 76)])), (15, ((9, 2), [(1, 80)])), (19, ((9, 3), [(1, 81)])), (23, ((9, 4), [(1, 82)]))]),
  (65, [(31, ((9, 8), [(1, 87)])), (38, ((9, 1), [(1, 78)])), (61, ((9, 11), [(1, 98)])), (64, ((9, 5), [(1, 83)]))]),
  (83, [(76, ((9, 7), [(1, 86)])), (79, ((9, 6), [(1, 84)])), (82, ((9, 9), [(1, 93)]))])]
def xq_10_1 : xTab ((Nat × Nat × Bool) × xHt) := [(24, [(9, ((9, 0, true), [(1, 76)])), (15, ((9, 2, true), [(1, 80)])), (19, ((9, 3, true), [(1, 81)])), (23, ((9, 4, true), [(1, 82)]))]),
  (62, [(31, ((9, 8, false), [(1, 87)])), (34, ((9, 12, false), [(1, 100)])), (38, ((9, 1, false), [(1, 78)])), (61, ((9, 11, false), [(1, 98)]))]),
  (83, [(64, ((9, 5, false), [(1, 83)])), (76, ((9, 7, false), [(1, 86)])), (79, ((9, 6, false), [(1, 84)])), (82, ((9, 9, false), [(1, 93)]))]),
  (86, [(85, ((9, 10, false), [(1, 94)]))])]
def xq_10_2 : xTab (Value × xHt) := [(112, [(27, (.ref 65, [(1, 74), (65, 0)])), (58, (.ref 62, [(3, 90), (62, 0)])), (89, (.ref 66, [(3, 59), (66, 0)])), (111, (.ref 63, [(3, 78), (63, 0)]))]),
  (115, [(114, (.ref 64, [(3, 84), (64, 0)]))])]
def xq_10_3 : xTab (Nat × xHt) := []
def xq_10_4 : xTab (Unit × xHt) := [(14, [(13, ((), [(1, 72)]))])]
def xq_10_5 : xTab (Unit × xHt) := [(2, [(1, ((), [(1, 71), (1, 37), (1, 38)]))])]
def xq_10_6 : xTab (Value × xHt) := [(110, [(49, (.long (-1), [(5, 109)])), (75, (.int 1000000, [(3, 91)])), (107, (.long 10, [(3, 76)])), (109, (.long 48, [(3, 77)]))])]
def xq_10_7 : xTab ((Nat × Nat) × xHt) := [(55, [(41, ((143, 1), [(3, 37), (1, 3), (3, 40), (3, 38), (3, 39)])), (45, ((145, 1), [(3, 45), (1, 3), (3, 47), (3, 46)])), (51, ((147, 1), [(3, 52), (1, 3), (3, 54), (3, 53)])), (54, ((315, 1), [(3, 65), (1, 5), (3, 67), (3, 66)]))]),
  (96, [(67, ((144, 2), [(3, 41), (1, 3), (3, 44), (3, 43), (0, 0)])), (71, ((149, 3), [(3, 61), (1, 3), (3, 64), (3, 63), (0, 3)])), (92, ((146, 1), [(3, 48), (1, 3), (3, 51), (3, 50), (0, 1)])), (95, ((150, 1), [(3, 72), (1, 3), (3, 75), (3, 74), (0, 4)]))]),
  (105, [(98, ((151, 1), [(3, 80), (1, 3), (3, 83), (3, 82), (0, 5)])), (101, ((152, 2), [(3, 86), (1, 3), (3, 89), (3, 88), (0, 6)])), (104, ((148, 1), [(3, 55), (1, 3), (3, 58), (3, 57), (0, 2)]))])]
def xq_10_8 : xTab (Nat × (List String × Nat)) := []
def xq_10_9 : xTab (Nat × xHt) := []
def xq_10_10 : xTab (Nat × xHt) := []
def xq_10_11 : xTab ((Nat × Nat × Nat) × xHt) := []
def xq_10 : xPool := ("ReportMill$Tape", xq_10_0, xq_10_1, xq_10_2, xq_10_3, xq_10_4, xq_10_5, xq_10_6, xq_10_7, xq_10_8, xq_10_9, xq_10_10, xq_10_11)
def xq_11_0 : xTab ((Nat × Nat) × xHt) := [(54, [(10, ((10, 0), [(2, 217)])), (19, ((10, 1), [(2, 218)])), (26, ((10, 2), [(2, 219)])), (35, ((10, 3), [(2, 220)])), (44, ((10, 4), [(2, 221)])), (53, ((10, 5), [(2, 222)]))]),
  (107, [(62, ((10, 6), [(2, 223)])), (69, ((10, 7), [(2, 224)])), (78, ((10, 8), [(2, 225)])), (82, ((9, 1), [(1, 77)])), (99, ((8, 0), [(1, 47)])), (106, ((8, 1), [(1, 49)]))]),
  (156, [(141, ((9, 11), [(1, 99)])), (144, ((9, 12), [(1, 101)])), (147, ((6, 11), [(2, 12)])), (150, ((0, 2), [(1, 189)])), (151, ((0, 1), [(1, 185)])), (155, ((0, 0), [(1, 182)]))]),
  (221, [(171, ((9, 8), [(1, 90)])), (194, ((4, 1), [(2, 112)])), (202, ((4, 3), [(2, 117)])), (209, ((6, 0), [(1, 212)])), (213, ((7, 4), [(2, 166)])), (220, ((7, 8), [(2, 174)]))]),
  (237, [(221, ((7, 5), [(2, 168)])), (224, ((5, 2), [(2, 144)])), (227, ((7, 6), [(2, 170)])), (230, ((7, 7), [(2, 172)])), (233, ((6, 3), [(1, 222)])), (236, ((6, 2), [(1, 218)]))]),
  (265, [(243, ((5, 0), [(2, 139)])), (251, ((7, 9), [(2, 176)])), (254, ((6, 10), [(2, 7)])), (258, ((2, 0), [(1, 147)])), (261, ((6, 7), [(1, 235)])), (264, ((7, 10), [(2, 178)]))]),
  (276, [(275, ((5, 1), [(2, 141)]))])]
def xq_11_1 : xTab ((Nat × Nat × Bool) × xHt) := [(36, [(10, ((10, 0, true), [(2, 217)])), (19, ((10, 1, true), [(2, 218)])), (26, ((10, 2, true), [(2, 219)])), (35, ((10, 3, true), [(2, 220)]))]),
  (70, [(44, ((10, 4, true), [(2, 221)])), (53, ((10, 5, true), [(2, 222)])), (62, ((10, 6, true), [(2, 223)])), (69, ((10, 7, true), [(2, 224)]))]),
  (214, [(78, ((10, 8, true), [(2, 225)])), (82, ((9, 1, false), [(1, 77)])), (106, ((8, 1, false), [(1, 49)])), (213, ((7, 4, false), [(2, 166)]))])]
def xq_11_2 : xTab (Value × xHt) := [(176, [(175, (.ref 65, [(5, 186), (65, 0)]))])]
def xq_11_3 : xTab (Nat × xHt) := [(31, [(7, (8, [(1, 39), (1, 40), (1, 2)])), (16, (9, [(1, 66), (1, 67), (1, 3)])), (23, (6, [(1, 131), (1, 132), (1, 6)])), (30, (0, [(2, 61), (1, 172), (1, 8)]))]),
  (67, [(39, (3, [(2, 63), (2, 64), (1, 10)])), (48, (1, [(2, 85), (2, 86), (1, 11)])), (57, (4, [(2, 104), (2, 105), (1, 12)])), (66, (5, [(2, 131), (2, 132), (1, 13)]))]),
  (74, [(73, (7, [(2, 155), (2, 156), (1, 14)]))])]
def xq_11_4 : xTab (Unit × xHt) := []
def xq_11_5 : xTab (Unit × xHt) := [(2, [(1, ((), [(1, 36), (1, 37), (1, 38)]))])]
def xq_11_6 : xTab (Value × xHt) := [(274, [(271, (.long 257, [(4, 220)])), (273, (.long 31, [(4, 221)]))])]
def xq_11_7 : xTab ((Nat × Nat) × xHt) := [(51, [(9, ((130, 0), [(99, 0), (1, 2), (1, 43), (1, 42)])), (18, ((141, 0), [(99, 1), (1, 3), (1, 70), (1, 69)])), (25, ((97, 0), [(99, 2), (1, 6), (1, 135), (1, 134)])), (32, ((18, 1), [(2, 62), (1, 8), (1, 175), (1, 174)])), (41, ((50, 3), [(2, 65), (1, 10), (2, 67), (2, 66)])), (50, ((25, 4), [(2, 87), (1, 11), (2, 89), (2, 88)]))]),
  (103, [(59, ((68, 1), [(2, 106), (1, 12), (2, 108), (2, 107)])), (68, ((88, 0), [(99, 4), (1, 13), (2, 135), (2, 134)])), (75, ((110, 4), [(2, 157), (1, 14), (2, 159), (2, 158)])), (89, ((156, 1), [(5, 71), (1, 3), (5, 74), (5, 72), (5, 73)])), (95, ((157, 0), [(5, 105), (1, 3), (5, 108), (5, 106), (5, 107)])), (102, ((132, 1), [(5, 110), (1, 2), (3, 142), (3, 140), (3, 141)]))]),
  (128, [(109, ((135, 2), [(5, 111), (1, 2), (5, 114), (5, 112), (5, 113)])), (113, ((98, 0), [(5, 115), (1, 6), (3, 28), (3, 26), (3, 27)])), (116, ((111, 0), [(3, 17), (1, 14), (3, 20), (3, 18), (3, 19)])), (119, ((131, 0), [(3, 9), (1, 2), (3, 12), (3, 10), (3, 11)])), (123, ((136, 1), [(5, 123), (1, 2), (5, 126), (5, 124), (5, 125)])), (127, ((137, 1), [(5, 127), (1, 2), (5, 130), (5, 128), (5, 129)]))]),
  (168, [(134, ((134, 2), [(4, 222), (1, 2), (4, 225), (4, 223), (4, 224)])), (138, ((26, 0), [(3, 21), (1, 11), (3, 24), (3, 22), (3, 23)])), (159, ((71, 2), [(5, 179), (1, 12), (5, 182), (5, 180), (5, 181)])), (163, ((19, 0), [(5, 183), (1, 8), (3, 32), (3, 30), (3, 31)])), (164, ((142, 0), [(5, 184), (1, 3), (3, 36), (3, 34), (3, 35)])), (167, ((51, 3), [(5, 185), (1, 10), (3, 173), (3, 171), (3, 172)]))]),
  (206, [(180, ((155, 0), [(5, 187), (1, 3), (3, 128), (3, 126), (3, 127)])), (183, ((72, 1), [(5, 188), (1, 12), (5, 191), (5, 189), (5, 190)])), (186, ((75, 2), [(5, 203), (1, 12), (5, 206), (5, 204), (5, 205)])), (190, ((78, 2), [(6, 9), (1, 12), (5, 218), (5, 216), (5, 217)])), (198, ((70, 1), [(4, 204), (1, 12), (4, 207), (4, 205), (4, 206)])), (205, ((86, 2), [(6, 17), (1, 12), (6, 20), (6, 18), (6, 19)]))]),
  (268, [(216, ((112, 1), [(6, 28), (1, 14), (6, 31), (6, 29), (6, 30)])), (239, ((95, 2), [(6, 175), (1, 13), (6, 99), (6, 97), (6, 98)])), (244, ((91, 3), [(6, 176), (1, 13), (4, 234), (4, 232), (4, 233)])), (248, ((90, 2), [(4, 226), (1, 13), (4, 229), (4, 227), (4, 228)])), (267, ((89, 0), [(4, 212), (1, 13), (4, 215), (4, 213), (4, 214)]))])]
def xq_11_8 : xTab (Nat × (List String × Nat)) := [(132, [(86, (14, (["java/lang/RuntimeException", "java/lang/Exception"], 88))), (92, (15, (["java/lang/RuntimeException", "java/lang/Exception"], 94))), (131, (16, (["java/lang/RuntimeException", "java/lang/Exception"], 133)))])]
def xq_11_9 : xTab (Nat × xHt) := []
def xq_11_10 : xTab (Nat × xHt) := []
def xq_11_11 : xTab ((Nat × Nat × Nat) × xHt) := []
def xq_11 : xPool := ("ReportMill", xq_11_0, xq_11_1, xq_11_2, xq_11_3, xq_11_4, xq_11_5, xq_11_6, xq_11_7, xq_11_8, xq_11_9, xq_11_10, xq_11_11)
def xq_12_0 : xTab ((Nat × Nat) × xHt) := []
def xq_12_1 : xTab ((Nat × Nat × Bool) × xHt) := [(23, [(9, ((11, 0, true), [(6, 217)])), (15, ((11, 1, true), [(6, 219)])), (19, ((11, 3, true), [(6, 222)])), (22, ((11, 4, true), [(6, 224)]))]),
  (26, [(25, ((11, 5, true), [(6, 226)]))])]
def xq_12_2 : xTab (Value × xHt) := []
def xq_12_3 : xTab (Nat × xHt) := []
def xq_12_4 : xTab (Unit × xHt) := []
def xq_12_5 : xTab (Unit × xHt) := [(4, [(3, ((), [(6, 216), (1, 37), (1, 38)]))])]
def xq_12_6 : xTab (Value × xHt) := []
def xq_12_7 : xTab ((Nat × Nat) × xHt) := []
def xq_12_8 : xTab (Nat × (List String × Nat)) := []
def xq_12_9 : xTab (Nat × xHt) := []
def xq_12_10 : xTab (Nat × xHt) := []
def xq_12_11 : xTab ((Nat × Nat × Nat) × xHt) := []
def xq_12 : xPool := ("ReportMillModel$Unit", xq_12_0, xq_12_1, xq_12_2, xq_12_3, xq_12_4, xq_12_5, xq_12_6, xq_12_7, xq_12_8, xq_12_9, xq_12_10, xq_12_11)
def xq_13_0 : xTab ((Nat × Nat) × xHt) := [(42, [(15, ((12, 1), [(7, 108)])), (19, ((12, 2), [(7, 109)])), (23, ((12, 5), [(7, 112)])), (26, ((12, 6), [(7, 113)])), (29, ((12, 8), [(7, 115)])), (32, ((12, 10), [(7, 117)])), (35, ((12, 11), [(7, 118)])), (38, ((12, 12), [(7, 119)])), (41, ((12, 13), [(7, 120)]))]),
  (73, [(47, ((12, 18), [(7, 125)])), (51, ((12, 19), [(7, 126)])), (54, ((12, 20), [(7, 127)])), (57, ((12, 26), [(7, 133)])), (60, ((12, 27), [(7, 134)])), (63, ((12, 28), [(7, 135)])), (66, ((12, 30), [(7, 137)])), (69, ((12, 31), [(7, 138)])), (72, ((12, 32), [(7, 139)]))]),
  (101, [(75, ((12, 33), [(7, 140)])), (78, ((12, 34), [(7, 141)])), (81, ((12, 39), [(7, 146)])), (84, ((12, 40), [(7, 147)])), (88, ((12, 42), [(7, 149)])), (91, ((12, 43), [(7, 150)])), (94, ((12, 45), [(7, 152)])), (97, ((12, 46), [(7, 153)])), (100, ((12, 47), [(7, 154)]))]),
  (129, [(103, ((12, 48), [(7, 155)])), (106, ((12, 49), [(7, 156)])), (110, ((12, 53), [(7, 160)])), (113, ((12, 54), [(7, 161)])), (116, ((12, 55), [(7, 162)])), (119, ((12, 56), [(7, 163)])), (122, ((12, 57), [(7, 164)])), (125, ((12, 59), [(7, 166)])), (128, ((12, 61), [(7, 168)]))]),
  (200, [(131, ((12, 62), [(7, 169)])), (134, ((12, 63), [(7, 170)])), (137, ((12, 72), [(7, 179)])), (140, ((12, 73), [(7, 180)])), (143, ((12, 74), [(7, 181)])), (147, ((12, 75), [(7, 182)])), (160, ((12, 0), [(7, 107)])), (163, ((12, 3), [(7, 110)])), (199, ((12, 4), [(7, 111)]))]),
  (293, [(205, ((12, 7), [(7, 114)])), (230, ((12, 9), [(7, 116)])), (258, ((12, 14), [(7, 121)])), (266, ((12, 15), [(7, 122)])), (270, ((12, 17), [(7, 124)])), (283, ((12, 16), [(7, 123)])), (286, ((11, 0), [(99, 16)])), (289, ((11, 2), [(99, 18)])), (292, ((11, 1), [(99, 17)]))]),
  (406, [(295, ((12, 22), [(7, 129)])), (298, ((12, 23), [(7, 130)])), (306, ((12, 25), [(7, 132)])), (309, ((12, 29), [(7, 136)])), (312, ((12, 24), [(7, 131)])), (391, ((11, 4), [(99, 20)])), (394, ((11, 6), [(99, 22)])), (397, ((11, 5), [(99, 21)])), (405, ((12, 41), [(7, 148)]))]),
  (492, [(412, ((12, 35), [(7, 142)])), (417, ((12, 36), [(7, 143)])), (420, ((12, 37), [(7, 144)])), (423, ((12, 38), [(7, 145)])), (446, ((12, 44), [(7, 151)])), (482, ((12, 21), [(7, 128)])), (485, ((12, 64), [(7, 171)])), (488, ((12, 66), [(7, 173)])), (491, ((11, 3), [(99, 19)]))]),
  (561, [(518, ((12, 50), [(7, 157)])), (521, ((12, 51), [(7, 158)])), (524, ((13, 0), [(99, 25)])), (527, ((13, 1), [(99, 26)])), (530, ((12, 52), [(7, 159)])), (533, ((12, 60), [(7, 167)])), (540, ((12, 58), [(7, 165)])), (557, ((12, 67), [(7, 174)])), (560, ((12, 68), [(7, 175)]))]),
  (702, [(616, ((12, 71), [(7, 178)])), (643, ((12, 69), [(7, 176)])), (689, ((12, 70), [(7, 177)])), (701, ((12, 65), [(7, 172)]))])]
def xq_13_1 : xTab ((Nat × Nat × Bool) × xHt) := [(42, [(15, ((12, 1, true), [(7, 108)])), (19, ((12, 2, true), [(7, 109)])), (23, ((12, 5, true), [(7, 112)])), (26, ((12, 6, true), [(7, 113)])), (29, ((12, 8, true), [(7, 115)])), (32, ((12, 10, true), [(7, 117)])), (35, ((12, 11, true), [(7, 118)])), (38, ((12, 12, true), [(7, 119)])), (41, ((12, 13, true), [(7, 120)]))]),
  (73, [(47, ((12, 18, true), [(7, 125)])), (51, ((12, 19, true), [(7, 126)])), (54, ((12, 20, false), [(7, 127)])), (57, ((12, 26, true), [(7, 133)])), (60, ((12, 27, true), [(7, 134)])), (63, ((12, 28, true), [(7, 135)])), (66, ((12, 30, true), [(7, 137)])), (69, ((12, 31, true), [(7, 138)])), (72, ((12, 32, true), [(7, 139)]))]),
  (101, [(75, ((12, 33, true), [(7, 140)])), (78, ((12, 34, true), [(7, 141)])), (81, ((12, 39, true), [(7, 146)])), (84, ((12, 40, true), [(7, 147)])), (88, ((12, 42, true), [(7, 149)])), (91, ((12, 43, true), [(7, 150)])), (94, ((12, 45, true), [(7, 152)])), (97, ((12, 46, true), [(7, 153)])), (100, ((12, 47, true), [(7, 154)]))]),
  (129, [(103, ((12, 48, true), [(7, 155)])), (106, ((12, 49, false), [(7, 156)])), (110, ((12, 53, false), [(7, 160)])), (113, ((12, 54, true), [(7, 161)])), (116, ((12, 55, true), [(7, 162)])), (119, ((12, 56, true), [(7, 163)])), (122, ((12, 57, true), [(7, 164)])), (125, ((12, 59, false), [(7, 166)])), (128, ((12, 61, true), [(7, 168)]))]),
  (200, [(131, ((12, 62, true), [(7, 169)])), (134, ((12, 63, true), [(7, 170)])), (137, ((12, 72, true), [(7, 179)])), (140, ((12, 73, true), [(7, 180)])), (143, ((12, 74, true), [(7, 181)])), (147, ((12, 75, true), [(7, 182)])), (160, ((12, 0, false), [(7, 107)])), (163, ((12, 3, false), [(7, 110)])), (199, ((12, 4, false), [(7, 111)]))]),
  (299, [(205, ((12, 7, false), [(7, 114)])), (230, ((12, 9, false), [(7, 116)])), (258, ((12, 14, false), [(7, 121)])), (266, ((12, 15, false), [(7, 122)])), (270, ((12, 17, false), [(7, 124)])), (283, ((12, 16, false), [(7, 123)])), (289, ((11, 2, false), [(99, 18)])), (295, ((12, 22, false), [(7, 129)])), (298, ((12, 23, false), [(7, 130)]))]),
  (424, [(306, ((12, 25, false), [(7, 132)])), (309, ((12, 29, false), [(7, 136)])), (312, ((12, 24, false), [(7, 131)])), (394, ((11, 6, false), [(99, 22)])), (405, ((12, 41, false), [(7, 148)])), (412, ((12, 35, false), [(7, 142)])), (417, ((12, 36, false), [(7, 143)])), (420, ((12, 37, false), [(7, 144)])), (423, ((12, 38, false), [(7, 145)]))]),
  (541, [(446, ((12, 44, false), [(7, 151)])), (482, ((12, 21, false), [(7, 128)])), (485, ((12, 64, false), [(7, 171)])), (488, ((12, 66, false), [(7, 173)])), (518, ((12, 50, false), [(7, 157)])), (521, ((12, 51, false), [(7, 158)])), (530, ((12, 52, false), [(7, 159)])), (533, ((12, 60, false), [(7, 167)])), (540, ((12, 58, false), [(7, 165)]))]),
  (702, [(557, ((12, 67, false), [(7, 174)])), (560, ((12, 68, false), [(7, 175)])), (616, ((12, 71, false), [(7, 178)])), (643, ((12, 69, false), [(7, 176)])), (689, ((12, 70, false), [(7, 177)])), (701, ((12, 65, false), [(7, 172)]))])]
def xq_13_2 : xTab (Value × xHt) := []
def xq_13_3 : xTab (Nat × xHt) := [(45, [(44, (11, [(6, 211), (6, 212), (1, 16)]))])]
def xq_13_4 : xTab (Unit × xHt) := []
def xq_13_5 : xTab (Unit × xHt) := [(10, [(9, ((), [(6, 210), (1, 37), (1, 38)]))])]
def xq_13_6 : xTab (Value × xHt) := [(185, [(146, (.int 72000, [(7, 4)])), (150, (.ref 69, [(0, 0)])), (178, (.long 97, [(8, 127)])), (180, (.long 122, [(8, 128)])), (182, (.long 48, [(8, 132)])), (184, (.long 57, [(8, 133)]))]),
  (253, [(186, (.long 8, [(8, 123)])), (215, (.long 255, [(8, 153)])), (217, (.long 32, [(8, 154)])), (219, (.long 126, [(8, 155)])), (221, (.long 2, [(8, 164)])), (252, (.long 10, [(8, 206)]))]),
  (374, [(254, (.ref 71, [(1, 0)])), (319, (.long 43, [(9, 97)])), (321, (.long 45, [(9, 98)])), (327, (.long 37, [(9, 107)])), (329, (.long 42, [(9, 108)])), (373, (.long 107, [(9, 114)]))]),
  (462, [(375, (.long 109, [(9, 115)])), (439, (.long 6, [(9, 135)])), (441, (.long 11, [(9, 136)])), (449, (.long 14, [(9, 145)])), (451, (.long 20, [(9, 146)])), (461, (.long 24, [(9, 151)]))]),
  (606, [(463, (.long 28, [(9, 152)])), (478, (.long 31, [(9, 169)])), (480, (.long 33, [(9, 170)])), (495, (.long 3, [(8, 229)])), (497, (.long 5, [(8, 230)])), (605, (.long 100, [(10, 28)]))]),
  (716, [(611, (.long (-10), [(10, 24)])), (704, (.long 4, [(10, 148)])), (715, (.long 257, [(10, 193)]))])]
def xq_13_7 : xTab ((Nat × Nat) × xHt) := [(196, [(3, ((326, 1), [(7, 87), (1, 17), (7, 90), (7, 88), (7, 89)])), (46, ((183, 0), [(99, 15), (1, 16), (6, 215), (6, 214)])), (152, ((321, 2), [(7, 6), (1, 17), (7, 9), (7, 7), (7, 8)])), (156, ((185, 3), [(7, 84), (1, 15), (7, 86), (7, 85)])), (166, ((188, 1), [(8, 104), (1, 15), (8, 107), (8, 106), (0, 66)])), (170, ((189, 1), [(8, 108), (1, 15), (8, 111), (8, 110), (0, 67)])), (174, ((191, 3), [(8, 116), (1, 15), (8, 118), (8, 117)])), (188, ((193, 1), [(8, 124), (1, 15), (8, 126), (8, 125)])), (192, ((194, 1), [(8, 129), (1, 15), (8, 131), (8, 130)])), (195, ((195, 1), [(8, 134), (1, 15), (8, 137), (8, 136), (0, 68)]))]),
  (247, [(202, ((196, 3), [(8, 138), (1, 15), (8, 140), (8, 139)])), (208, ((197, 0), [(8, 141), (1, 15), (8, 144), (8, 143), (0, 69)])), (211, ((199, 0), [(8, 149), (1, 15), (8, 152), (8, 151), (0, 70)])), (223, ((202, 1), [(8, 165), (1, 15), (8, 168), (8, 167), (0, 71)])), (226, ((204, 2), [(8, 173), (1, 15), (8, 176), (8, 175), (0, 72)])), (233, ((208, 1), [(8, 190), (1, 15), (8, 193), (8, 192), (0, 75)])), (236, ((209, 4), [(8, 194), (1, 15), (8, 197), (8, 196), (0, 76)])), (240, ((210, 1), [(8, 198), (1, 15), (8, 201), (8, 200), (0, 77)])), (243, ((211, 1), [(8, 202), (1, 15), (8, 205), (8, 204), (0, 78)])), (246, ((212, 1), [(8, 207), (1, 15), (8, 210), (8, 209), (0, 79)]))]),
  (335, [(249, ((213, 1), [(8, 211), (1, 15), (8, 214), (8, 213), (0, 80)])), (256, ((328, 1), [(8, 216), (1, 17), (8, 219), (8, 217), (8, 218)])), (273, ((218, 0), [(8, 239), (1, 15), (9, 2), (9, 1), (0, 85)])), (277, ((221, 1), [(9, 33), (1, 15), (9, 36), (9, 35), (0, 88)])), (280, ((217, 0), [(8, 235), (1, 15), (8, 238), (8, 237), (0, 84)])), (302, ((234, 2), [(9, 85), (1, 15), (9, 88), (9, 87), (0, 101)])), (315, ((219, 3), [(9, 25), (1, 15), (9, 28), (9, 27), (0, 86)])), (323, ((238, 0), [(9, 103), (1, 15), (9, 106), (9, 105), (0, 105)])), (331, ((227, 0), [(9, 57), (1, 15), (9, 60), (9, 59), (0, 94)])), (334, ((228, 0), [(9, 61), (1, 15), (9, 64), (9, 63), (0, 95)]))]),
  (371, [(337, ((243, 1), [(9, 127), (1, 15), (9, 130), (9, 129), (0, 108)])), (340, ((229, 0), [(9, 65), (1, 15), (9, 68), (9, 67), (0, 96)])), (343, ((230, 0), [(9, 69), (1, 15), (9, 72), (9, 71), (0, 97)])), (346, ((319, 2), [(9, 123), (1, 30), (6, 68), (6, 67)])), (352, ((242, 2), [(9, 124), (1, 15), (9, 126), (9, 125)])), (356, ((233, 2), [(9, 81), (1, 15), (9, 84), (9, 83), (0, 100)])), (359, ((231, 0), [(9, 73), (1, 15), (9, 76), (9, 75), (0, 98)])), (362, ((240, 4), [(9, 116), (1, 15), (9, 119), (9, 118), (0, 107)])), (366, ((241, 3), [(9, 120), (1, 15), (9, 122), (9, 121)])), (370, ((232, 0), [(9, 77), (1, 15), (9, 80), (9, 79), (0, 99)]))]),
  (434, [(377, ((235, 0), [(9, 89), (1, 15), (9, 92), (9, 91), (0, 102)])), (380, ((236, 0), [(9, 93), (1, 15), (9, 96), (9, 95), (0, 103)])), (383, ((237, 0), [(9, 99), (1, 15), (9, 102), (9, 101), (0, 104)])), (386, ((225, 1), [(9, 49), (1, 15), (9, 52), (9, 51), (0, 92)])), (388, ((239, 0), [(9, 109), (1, 15), (9, 112), (9, 111), (0, 106)])), (408, ((224, 1), [(9, 45), (1, 15), (9, 48), (9, 47), (0, 91)])), (415, ((220, 2), [(9, 29), (1, 15), (9, 32), (9, 31), (0, 87)])), (426, ((222, 0), [(9, 37), (1, 15), (9, 40), (9, 39), (0, 89)])), (429, ((223, 0), [(9, 41), (1, 15), (9, 44), (9, 43), (0, 90)])), (433, ((226, 0), [(9, 53), (1, 15), (9, 56), (9, 55), (0, 93)]))]),
  (500, [(436, ((244, 1), [(9, 131), (1, 15), (9, 134), (9, 133), (0, 109)])), (443, ((245, 0), [(9, 137), (1, 15), (9, 140), (9, 139), (0, 110)])), (453, ((247, 1), [(9, 147), (1, 15), (9, 150), (9, 149), (0, 112)])), (457, ((250, 4), [(9, 161), (1, 15), (9, 164), (9, 163), (0, 115)])), (465, ((248, 1), [(9, 153), (1, 15), (9, 156), (9, 155), (0, 113)])), (468, ((249, 0), [(9, 157), (1, 15), (9, 160), (9, 159), (0, 114)])), (471, ((252, 2), [(9, 171), (1, 15), (9, 174), (9, 173), (0, 117)])), (475, ((251, 0), [(9, 165), (1, 15), (9, 168), (9, 167), (0, 116)])), (492, ((207, 0), [(8, 186), (1, 15), (8, 189), (8, 188), (0, 74)])), (499, ((216, 0), [(8, 231), (1, 15), (8, 234), (8, 233), (0, 83)]))]),
  (554, [(502, ((246, 0), [(9, 141), (1, 15), (9, 144), (9, 143), (0, 111)])), (505, ((206, 1), [(8, 182), (1, 15), (8, 185), (8, 184), (0, 73)])), (509, ((214, 1), [(8, 221), (1, 15), (8, 224), (8, 223), (0, 81)])), (512, ((215, 0), [(8, 225), (1, 15), (8, 228), (8, 227), (0, 82)])), (515, ((253, 1), [(9, 175), (1, 15), (9, 178), (9, 177), (0, 118)])), (536, ((258, 2), [(9, 195), (1, 15), (9, 198), (9, 197), (0, 119)])), (543, ((262, 1), [(9, 211), (1, 15), (9, 214), (9, 213), (0, 123)])), (546, ((263, 2), [(9, 215), (1, 15), (9, 218), (9, 217), (0, 124)])), (549, ((260, 1), [(9, 203), (1, 15), (9, 206), (9, 205), (0, 121)])), (553, ((261, 3), [(9, 207), (1, 15), (9, 210), (9, 209), (0, 122)]))]),
  (599, [(563, ((259, 3), [(9, 199), (1, 15), (9, 202), (9, 201), (0, 120)])), (567, ((267, 1), [(9, 231), (1, 15), (9, 234), (9, 233), (0, 128)])), (570, ((268, 0), [(10, 1), (1, 15), (10, 4), (10, 3), (0, 129)])), (573, ((269, 1), [(10, 5), (1, 15), (10, 8), (10, 7), (0, 130)])), (575, ((271, 1), [(10, 12), (1, 15), (10, 15), (10, 14), (0, 131)])), (578, ((264, 1), [(9, 219), (1, 15), (9, 222), (9, 221), (0, 125)])), (581, ((265, 1), [(9, 223), (1, 15), (9, 226), (9, 225), (0, 126)])), (584, ((266, 1), [(9, 227), (1, 15), (9, 230), (9, 229), (0, 127)])), (594, ((270, 6), [(10, 9), (1, 15), (10, 11), (10, 10)])), (598, ((272, 0), [(10, 16), (1, 15), (10, 19), (10, 18), (0, 132)]))]),
  (641, [(601, ((273, 3), [(10, 20), (1, 15), (10, 23), (10, 22), (0, 133)])), (613, ((292, 0), [(10, 104), (1, 15), (10, 107), (10, 106), (0, 147)])), (619, ((278, 2), [(10, 45), (1, 15), (10, 48), (10, 47), (0, 135)])), (622, ((285, 2), [(10, 76), (1, 15), (10, 79), (10, 78), (0, 140)])), (625, ((279, 1), [(10, 49), (1, 15), (10, 52), (10, 51), (0, 136)])), (628, ((286, 2), [(10, 80), (1, 15), (10, 83), (10, 82), (0, 141)])), (631, ((294, 0), [(10, 112), (1, 15), (10, 115), (10, 114), (0, 149)])), (634, ((284, 0), [(10, 72), (1, 15), (10, 75), (10, 74), (0, 139)])), (637, ((287, 2), [(10, 84), (1, 15), (10, 87), (10, 86), (0, 142)])), (640, ((288, 4), [(10, 88), (1, 15), (10, 91), (10, 90), (0, 143)]))]),
  (675, [(646, ((289, 3), [(10, 92), (1, 15), (10, 95), (10, 94), (0, 144)])), (650, ((296, 1), [(10, 120), (1, 15), (10, 123), (10, 122), (0, 151)])), (653, ((291, 0), [(10, 100), (1, 15), (10, 103), (10, 102), (0, 146)])), (656, ((293, 0), [(10, 108), (1, 15), (10, 111), (10, 110), (0, 148)])), (659, ((295, 2), [(10, 116), (1, 15), (10, 119), (10, 118), (0, 150)])), (662, ((282, 2), [(10, 61), (1, 15), (10, 63), (10, 62)])), (665, ((283, 1), [(10, 64), (1, 15), (10, 66), (10, 65)])), (668, ((320, 2), [(10, 67), (1, 30), (10, 69), (10, 68)])), (671, ((281, 2), [(10, 57), (1, 15), (10, 60), (10, 59), (0, 138)])), (674, ((300, 1), [(10, 136), (1, 15), (10, 139), (10, 138), (0, 155)]))]),
  (713, [(677, ((298, 1), [(10, 128), (1, 15), (10, 131), (10, 130), (0, 153)])), (680, ((290, 1), [(10, 96), (1, 15), (10, 99), (10, 98), (0, 145)])), (683, ((299, 1), [(10, 132), (1, 15), (10, 135), (10, 134), (0, 154)])), (686, ((301, 1), [(10, 140), (1, 15), (10, 143), (10, 142), (0, 156)])), (692, ((280, 0), [(10, 53), (1, 15), (10, 56), (10, 55), (0, 137)])), (695, ((297, 1), [(10, 124), (1, 15), (10, 127), (10, 126), (0, 152)])), (698, ((277, 1), [(10, 41), (1, 15), (10, 44), (10, 43), (0, 134)])), (706, ((303, 1), [(10, 149), (1, 15), (10, 152), (10, 151), (0, 157)])), (709, ((306, 2), [(10, 161), (1, 15), (10, 164), (10, 163), (0, 158)])), (712, ((308, 2), [(10, 169), (1, 15), (10, 172), (10, 171), (0, 159)]))])]
def xq_13_8 : xTab (Nat × (List String × Nat)) := []
def xq_13_9 : xTab (Nat × xHt) := []
def xq_13_10 : xTab (Nat × xHt) := [(608, [(400, (1, [(9, 113), (6, 126), (1, 9), (6, 127)])), (588, (3, [(9, 235), (9, 236), (1, 9), (9, 237)])), (591, (2, [(9, 238), (9, 239), (1, 9), (10, 0)])), (607, (4, [(10, 25), (10, 26), (1, 9), (10, 27)]))])]
def xq_13_11 : xTab ((Nat × Nat × Nat) × xHt) := [(262, [(261, ((13, 263, 314), [(8, 181), (9, 3), (1, 29), (99, 24), (1, 29), (9, 13), (9, 12)]))])]
def xq_13 : xPool := ("ReportMillModel", xq_13_0, xq_13_1, xq_13_2, xq_13_3, xq_13_4, xq_13_5, xq_13_6, xq_13_7, xq_13_8, xq_13_9, xq_13_10, xq_13_11)
def xq_14_0 : xTab ((Nat × Nat) × xHt) := []
def xq_14_1 : xTab ((Nat × Nat × Bool) × xHt) := [(14, [(7, ((13, 0, true), [(9, 15)])), (13, ((13, 1, true), [(9, 17)]))])]
def xq_14_2 : xTab (Value × xHt) := []
def xq_14_3 : xTab (Nat × xHt) := []
def xq_14_4 : xTab (Unit × xHt) := []
def xq_14_5 : xTab (Unit × xHt) := []
def xq_14_6 : xTab (Value × xHt) := []
def xq_14_7 : xTab ((Nat × Nat) × xHt) := []
def xq_14_8 : xTab (Nat × (List String × Nat)) := []
def xq_14_9 : xTab (Nat × xHt) := [(2, [(1, (13, [(1, 22), (5, 29), (5, 38), (5, 43), (5, 46), (5, 48), (5, 30), (5, 31), (1, 37), (1, 38), (5, 32), (5, 37), (5, 44), (5, 60), (5, 19), (5, 61), (5, 21), (5, 62), (5, 23), (5, 33), (5, 35), (5, 25), (5, 53), (5, 54), (5, 55), (5, 56), (99, 9), (5, 56), (5, 57), (5, 58), (5, 30), (99, 11), (9, 14), (9, 3), (9, 5), (5, 40), (9, 6), (9, 7), (9, 8), (5, 28), (5, 27), (9, 10)]))])]
def xq_14_10 : xTab (Nat × xHt) := []
def xq_14_11 : xTab ((Nat × Nat × Nat) × xHt) := []
def xq_14 : xPool := ("ReportMillModel$Stopped", xq_14_0, xq_14_1, xq_14_2, xq_14_3, xq_14_4, xq_14_5, xq_14_6, xq_14_7, xq_14_8, xq_14_9, xq_14_10, xq_14_11)
def xq_15_0 : xTab ((Nat × Nat) × xHt) := [(235, [(230, ((100, 1), [(10, 198)])), (234, ((100, 2), [(10, 203)]))])]
def xq_15_1 : xTab ((Nat × Nat × Bool) × xHt) := []
def xq_15_2 : xTab (Value × xHt) := [(193, [(30, (.ref 8, [(4, 72), (8, 0)])), (33, (.ref 9, [(4, 73), (9, 0)])), (162, (.ref 52, [(4, 133), (52, 0)])), (192, (.ref 62, [(3, 70), (62, 0)]))]),
  (258, [(257, (.ref 67, [(3, 68), (67, 0)]))])]
def xq_15_3 : xTab (Nat × xHt) := []
def xq_15_4 : xTab (Unit × xHt) := []
def xq_15_5 : xTab (Unit × xHt) := []
def xq_15_6 : xTab (Value × xHt) := []
def xq_15_7 : xTab ((Nat × Nat) × xHt) := []
def xq_15_8 : xTab (Nat × (List String × Nat)) := []
def xq_15_9 : xTab (Nat × xHt) := []
def xq_15_10 : xTab (Nat × xHt) := []
def xq_15_11 : xTab ((Nat × Nat × Nat) × xHt) := []
def xq_15 : xPool := ("ReportMill$Kind", xq_15_0, xq_15_1, xq_15_2, xq_15_3, xq_15_4, xq_15_5, xq_15_6, xq_15_7, xq_15_8, xq_15_9, xq_15_10, xq_15_11)
def xq_16_0 : xTab ((Nat × Nat) × xHt) := [(8, [(7, ((100, 0), [(10, 200)]))])]
def xq_16_1 : xTab ((Nat × Nat × Bool) × xHt) := []
def xq_16_2 : xTab (Value × xHt) := []
def xq_16_3 : xTab (Nat × xHt) := []
def xq_16_4 : xTab (Unit × xHt) := []
def xq_16_5 : xTab (Unit × xHt) := []
def xq_16_6 : xTab (Value × xHt) := []
def xq_16_7 : xTab ((Nat × Nat) × xHt) := []
def xq_16_8 : xTab (Nat × (List String × Nat)) := []
def xq_16_9 : xTab (Nat × xHt) := []
def xq_16_10 : xTab (Nat × xHt) := []
def xq_16_11 : xTab ((Nat × Nat × Nat) × xHt) := []
def xq_16 : xPool := ("java/lang/Enum", xq_16_0, xq_16_1, xq_16_2, xq_16_3, xq_16_4, xq_16_5, xq_16_6, xq_16_7, xq_16_8, xq_16_9, xq_16_10, xq_16_11)
def xq_17_0 : xTab ((Nat × Nat) × xHt) := []
def xq_17_1 : xTab ((Nat × Nat × Bool) × xHt) := []
def xq_17_2 : xTab (Value × xHt) := []
def xq_17_3 : xTab (Nat × xHt) := []
def xq_17_4 : xTab (Unit × xHt) := []
def xq_17_5 : xTab (Unit × xHt) := []
def xq_17_6 : xTab (Value × xHt) := [(169, [(168, (.long (-9223372036854775808), [(10, 70)]))])]
def xq_17_7 : xTab ((Nat × Nat) × xHt) := [(303, [(302, ((319, 2), [(10, 71), (1, 30), (6, 68), (6, 67)]))])]
def xq_17_8 : xTab (Nat × (List String × Nat)) := []
def xq_17_9 : xTab (Nat × xHt) := []
def xq_17_10 : xTab (Nat × xHt) := []
def xq_17_11 : xTab ((Nat × Nat × Nat) × xHt) := []
def xq_17 : xPool := ("java/lang/Long", xq_17_0, xq_17_1, xq_17_2, xq_17_3, xq_17_4, xq_17_5, xq_17_6, xq_17_7, xq_17_8, xq_17_9, xq_17_10, xq_17_11)
def xq_18_0 : xTab ((Nat × Nat) × xHt) := [(16, [(9, ((101, 0), [(10, 197)])), (15, ((101, 1), [(10, 196)]))])]
def xq_18_1 : xTab ((Nat × Nat × Bool) × xHt) := []
def xq_18_2 : xTab (Value × xHt) := [(1054, [(38, (.int 1, [(7, 14), (69, 0)])), (1053, (.retAddr 7, [(7, 53), (73, 0)]))])]
def xq_18_3 : xTab (Nat × xHt) := []
def xq_18_4 : xTab (Unit × xHt) := []
def xq_18_5 : xTab (Unit × xHt) := []
def xq_18_6 : xTab (Value × xHt) := []
def xq_18_7 : xTab ((Nat × Nat) × xHt) := [(506, [(335, ((324, 0), [(7, 20), (1, 17), (7, 23), (7, 21), (7, 22)])), (492, ((322, 0), [(7, 10), (1, 17), (7, 13), (7, 11), (7, 12)])), (495, ((332, 2), [(7, 91), (1, 18), (7, 93), (7, 92)])), (505, ((323, 0), [(7, 16), (1, 17), (7, 19), (7, 17), (7, 18)]))]),
  (1063, [(633, ((321, 2), [(8, 220), (1, 17), (7, 9), (7, 7), (7, 8)])), (637, ((329, 4), [(7, 24), (1, 18), (7, 26), (7, 25)])), (1059, ((334, 3), [(7, 97), (1, 20), (7, 99), (7, 98)])), (1062, ((333, 4), [(7, 55), (1, 20), (7, 57), (7, 56)]))])]
def xq_18_8 : xTab (Nat × (List String × Nat)) := []
def xq_18_9 : xTab (Nat × xHt) := []
def xq_18_10 : xTab (Nat × xHt) := []
def xq_18_11 : xTab ((Nat × Nat × Nat) × xHt) := []
def xq_18 : xPool := ("java/lang/String", xq_18_0, xq_18_1, xq_18_2, xq_18_3, xq_18_4, xq_18_5, xq_18_6, xq_18_7, xq_18_8, xq_18_9, xq_18_10, xq_18_11)
def xq_19_0 : xTab ((Nat × Nat) × xHt) := []
def xq_19_1 : xTab ((Nat × Nat × Bool) × xHt) := []
def xq_19_2 : xTab (Value × xHt) := []
def xq_19_3 : xTab (Nat × xHt) := []
def xq_19_4 : xTab (Unit × xHt) := []
def xq_19_5 : xTab (Unit × xHt) := []
def xq_19_6 : xTab (Value × xHt) := []
def xq_19_7 : xTab ((Nat × Nat) × xHt) := [(96, [(9, ((327, 2), [(7, 94), (1, 17), (7, 96), (7, 95)])), (88, ((330, 1), [(7, 27), (1, 18), (7, 29), (7, 28)])), (95, ((331, 4), [(7, 32), (1, 18), (7, 34), (7, 33)]))])]
def xq_19_8 : xTab (Nat × (List String × Nat)) := []
def xq_19_9 : xTab (Nat × xHt) := []
def xq_19_10 : xTab (Nat × xHt) := [(93, [(38, (1, [(7, 31), (6, 126), (1, 9), (6, 127)])), (92, (0, [(7, 30), (1, 178), (1, 9), (1, 179)]))])]
def xq_19_11 : xTab ((Nat × Nat × Nat) × xHt) := []
def xq_19 : xPool := ("java/lang/StringLatin1", xq_19_0, xq_19_1, xq_19_2, xq_19_3, xq_19_4, xq_19_5, xq_19_6, xq_19_7, xq_19_8, xq_19_9, xq_19_10, xq_19_11)
def xq_20_0 : xTab ((Nat × Nat) × xHt) := []
def xq_20_1 : xTab ((Nat × Nat × Bool) × xHt) := []
def xq_20_2 : xTab (Value × xHt) := []
def xq_20_3 : xTab (Nat × xHt) := []
def xq_20_4 : xTab (Unit × xHt) := []
def xq_20_5 : xTab (Unit × xHt) := []
def xq_20_6 : xTab (Value × xHt) := []
def xq_20_7 : xTab ((Nat × Nat) × xHt) := []
def xq_20_8 : xTab (Nat × (List String × Nat)) := []
def xq_20_9 : xTab (Nat × xHt) := []
def xq_20_10 : xTab (Nat × xHt) := []
def xq_20_11 : xTab ((Nat × Nat × Nat) × xHt) := []
def xq_20 : xPool := ("jdk/internal/util/Preconditions", xq_20_0, xq_20_1, xq_20_2, xq_20_3, xq_20_4, xq_20_5, xq_20_6, xq_20_7, xq_20_8, xq_20_9, xq_20_10, xq_20_11)
def xPs : List xPool := [xq_0, xq_1, xq_2, xq_3, xq_4, xq_5, xq_6, xq_7, xq_8, xq_9, xq_10, xq_11, xq_12, xq_13, xq_14, xq_15, xq_16, xq_17, xq_18, xq_19, xq_20]
