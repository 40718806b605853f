/** The boundary cases of section 2's tokens, grammar, size and depth, and of the errors of form. */
public final class FormBoundsTest {
  private static final Checks CHECKS = new Checks();

  private static final String OPENS = "(".repeat(12);
  private static final String CLOSES = ")".repeat(12);
  private static final String KEEPS = "keep ".repeat(12);
  private static final String ENDS = "end ".repeat(12);

  public static void main(String[] args) {
    blanksAndLineEnds();
    bytesWithoutToken();
    tokensThatNeedABlank();
    longestTokens();
    words();
    numbers();
    texts();
    keywordsAreNoNames();
    allOtherWordsAreNames();
    nothingAtAll();
    emptyParts();
    options();
    oneRelation();
    arguments();
    operatorsInLines();
    endOfTheTape();
    sizeOfLets();
    sizeOfTotals();
    sizeOfPieces();
    sizeOfIfs();
    sizeOfEvaluate();
    tokenOneHundredAndOne();
    depthOfParentheses();
    depthOfFunctions();
    depthOfOperands();
    depthOfKeeps();
    depthOfIfs();
    depthOfLines();
    depthComesBack();
    depthOfEvaluate();
    formAheadOfMeaning();
    CHECKS.end();
  }

  private static void error(String program, String due) {
    CHECKS.same("promise 10: " + program, new Mill().columns("a", "b", "t$").error(program), due);
  }

  private static void stands(String program) {
    error(program, "0@-1");
  }

  private static void value(String expression, String due) {
    CHECKS.same("promise 13: " + expression, new Mill().value(expression), due);
  }

  /** "Blanks (32) and line ends (10) can stand between tokens, at the beginning and at the end". */
  private static void blanksAndLineEnds() {
    for (String blank : new String[] {" ", "\n", "  ", "\n\n", " \n ", " ".repeat(100)}) {
      stands("let" + blank + "x" + blank + "=" + blank + "-" + blank + "a" + blank);
      stands(blank + "let x=-a");
      stands("let x=-a" + blank);
      stands("page" + blank + "10" + blank + "4" + blank + "band" + blank + "row" + blank + "end");
    }
    for (String other : new String[] {"\t", "\r", "\u000b", "\f", "\0", "\u0001", "\u001f", "\u00a0", "\u0085"}) {
      error("let x" + other + "= a", "1@5");
      error(other + "let x = a", "1@0");
      error("let x = a" + other, "1@9");
    }
  }

  /** "a byte with which no token begins". */
  private static void bytesWithoutToken() {
    String begins = "abcdefghijklmnopqrstuvwxyz0123456789\"(),:=+-*/%&<> \n";
    for (int b = 0; b < 256; b++) {
      if (begins.indexOf(b) < 0) {
        error("let x = 1 " + (char) b, "1@10");
        error("let x = " + (char) b + "1", "1@8");
        error("" + (char) b, "1@0");
      }
    }
    for (String symbol : new String[] {"(", ")", ",", ":", "=", "+", "-", "*", "/", "%", "&", "<", ">", "<=", ">=", "<>"}) {
      error(symbol, "1@0");
      error("let x = 1 let " + symbol, "1@14");
    }
  }

  /** "and have to stand between two tokens that would otherwise be read as one." */
  private static void tokensThatNeedABlank() {
    error("letx = 1", "1@0");
    error("page10 4", "1@0");
    error("page 104", "1@8");
    stands("page 10 4");
    error("order downa", "2@6");
    stands("order down a");
    error("let x = nota", "2@8");
    stands("let x = not a");
    error("band row line ab end", "2@14");
    stands("band row line a b end");
    error("band row line a1 end", "2@14");
    stands("band row line a 1 end");
    error("let x = a < = b", "1@12");
    error("let x = a > = b", "1@12");
    error("let x = a < > b", "1@12");
    error("let x = a <\n= b", "1@12");
    stands("let x = a <= b");
    stands("let x=1let y=2page 10 4group a");
    stands("band row line\"\"\"\"a\"\"1at 1(1)t:3left 1:4right\"x\"end");
    stands("page 10 4band row skip 1skip 2if 1then end end");
  }

  /** "The longest possible token is always read." */
  private static void longestTokens() {
    value("1<=2", "1");
    value("2<=1", "0");
    value("1>=1", "1");
    value("1<>1", "0");
    value("1<-1", "0");
    value("1>-1", "1");
    value("1=-1", "0");
    error("let x = 1=<2", "1@10");
    error("let x = 1=>2", "1@10");
    error("let x = 1><2", "1@10");
    error("let x = 1<<2", "1@10");
    error("let x = 1<==2", "1@11");
    error("let x = 1<>=2", "1@11");
    error("let x = 1a", "1@9");
    value("12", "12");
    error("let x = \"a\"\"b\"", "1@11");
    stands("let x = \"a\"let y = x");
    error("let x = a or1", "1@10");
    error("let x = a and1", "1@10");
  }

  /** "A word: a letter a to z, followed by letters a to z and digits, at most 8 bytes in all." */
  private static void words() {
    for (String word : new String[] {"c", "z", "c0", "z9", "abcdefgh", "c0123456", "zzzzzzzz", "az09az09"}) {
      stands("let " + word + " = 1 let y = " + word + " + 1");
    }
    for (String word : new String[] {"abcdefghi", "c01234567", "zzzzzzzzz", "pagepagep", "summary12", "abcdefghijklmnop"}) {
      error("let " + word + " = 1", "1@4");
      error("let x = 1 + " + word, "1@12");
      error(word, "1@0");
      error("let x = 1 " + word, "1@10");
    }
    for (String word : new String[] {"A", "C1", "`", "{", "_c", "0c", "@"}) {
      error("let " + word + " = 1", "1@4");
    }
    for (String word : new String[] {"cA", "c`", "c{", "c_", "c/", "c:", "c@", "c."}) {
      error("let " + word + " = 1", "1@5");
    }
  }

  /** "A number: 1 to 9 digits." */
  private static void numbers() {
    value("0", "0");
    value("9", "9");
    value("123456789", "123456789");
    value("999999999", "999999999");
    value("000000000", "0");
    value("000000007", "7");
    value("1000000000", "error 1@0");
    value("0000000007", "error 1@0");
    value("1 + 9999999999", "error 1@4");
    error("page 0000000010 4", "1@5");
    stands("page 000000010 000000004");
    error("let x = 1 1234567890", "1@10");
  }

  /** "A text: a quotation mark (34), 0 to 20 bytes from 32 to 126 other than the quotation mark, and a quotation mark." */
  private static void texts() {
    for (int bytes = 0; bytes <= 20; bytes++) {
      String inside = "abcdefghijklmnopqrst".substring(0, bytes);
      value("\"" + inside + "\"", "'" + inside + "'");
      value("\"" + inside, "error 1@0");
      value("1 & \"" + inside, "error 1@4");
      value("1 & \"" + inside + "\n\"", "error 1@4");
    }
    value("\"abcdefghijklmnopqrstu\"", "error 1@0");
    value("1 & \"abcdefghijklmnopqrstu\"", "error 1@4");
    value("1 & \"abcdefghijklmnopqrstu", "error 1@4");
    value("1 & \"abcdefghijklmnopqrst\" & \"", "error 1@29");
    value("\"" + "\"".repeat(3), "error 1@2");
    for (int b = 0; b < 256; b++) {
      String due = b >= 32 && b <= 126 && b != 34 ? "'x" + (char) b + "'" : "error 1@0";
      if (b != 34) {
        value("\"x" + (char) b + "\"", due);
      }
    }
    value("\"" + " ".repeat(20) + "\"", "'" + " ".repeat(20) + "'");
    value("\"" + "~".repeat(20) + "\"", "'" + "~".repeat(20) + "'");
    value("\"" + "~".repeat(21) + "\"", "error 1@0");
    value("\"x\"y\"", "error 1@3");
  }

  private static void keywordsAreNoNames() {
    for (String keyword : Mill.KEYWORDS) {
      error("let " + keyword + " = 1", "1@4");
      error("total " + keyword + " = sum 1", "1@6");
      error("group " + keyword, "1@6");
      if (!keyword.equals("down")) {
        error("order " + keyword, "1@6");
      }
      error("band before " + keyword + " end", "1@12");
      error("group a total s = sum 1 per " + keyword, keyword.equals("page") ? "0@-1" : "1@28");
    }
  }

  /** "All other words are names." */
  private static void allOtherWordsAreNames() {
    for (String keyword : Mill.KEYWORDS) {
      if (keyword.length() < 8) {
        stands("let " + keyword + "0 = 1 let z = " + keyword + "0");
      }
      String shorter = keyword.substring(0, keyword.length() - 1);
      if (!shorter.isEmpty() && !java.util.List.of(Mill.KEYWORDS).contains(shorter) && !"abt".contains(shorter)) {
        stands("let " + shorter + " = 1 let z = " + shorter);
      }
    }
    stands("let i = 1 let min = 2 let max = 3 let average = 4 let header = i + min + max");
  }

  /** "program = { declaration } { band }": also none. */
  private static void nothingAtAll() {
    stands("");
    stands(" ");
    stands("\n");
    stands("let x = 1");
    stands("band row end");
    stands("let x = 1 band row end");
    error("band row end let x = 1", "1@13");
    error("let x = 1 band row end page 10 4 band top end", "1@23");
    error("1", "1@0");
    error("end", "1@0");
    error("line", "1@0");
    value("", "error 1@0");
    value(" ", "error 1@1");
  }

  /** "items = { item }", and the pieces of a line: also none. */
  private static void emptyParts() {
    stands("group a band title end band top end band bottom end band before a end band row end band after a end"
        + " band summary end");
    stands("band row line end");
    stands("band row line line line end");
    stands("band row keep end end");
    stands("band row if a then end end");
    stands("band row if a then else end end");
    stands("band row if a then line else end end");
    stands("band row if a then else line end end");
    error("band row keep", "1@13");
    error("band row if a then", "1@18");
    error("band row if a then else", "1@23");
    error("band row if a then end", "1@22");
    error("band row keep end", "1@17");
    error("band row if then end end", "1@12");
    error("band row else end", "1@9");
  }

  /** "[ x ] means x or nothing". */
  private static void options() {
    stands("order a order down a");
    error("order down", "1@10");
    error("order down down a", "1@11");
    stands("total s = sum a total c = count a per page");
    error("total s = sum a per", "1@19");
    error("total s = sum a per page per page", "1@25");
    stands("band row line a a : 1 a : 1 left a : 1 right a : 1 mid end");
    error("band row line a :", "1@17");
    error("band row line a : end", "1@18");
    error("band row line a left end", "1@16");
    error("band row line a : 1 left mid end", "1@25");
    error("band row line a : 1 : 1 end", "1@20");
    error("band row line : 1 end", "1@14");
    error("band row line at end", "1@17");
    error("band row line at 1 : 1 end", "1@19");
  }

  /** "relation = sum [ ( "=" | .. ) sum ]": at most one of them. */
  private static void oneRelation() {
    for (String first : new String[] {"=", "<>", "<", ">", "<=", ">="}) {
      for (String second : new String[] {"=", "<>", "<", ">", "<=", ">="}) {
        error("let x = a " + first + " b " + second + " 1", "1@" + (13 + first.length()));
        stands("let x = (a " + first + " b) " + second + " 1");
        stands("let x = a " + first + " b and a " + second + " 1 or a " + first + " 2");
      }
    }
  }

  /** "( "len" | .. ) "(" expression { "," expression } ")"": at least one. */
  private static void arguments() {
    for (String function : new String[] {"len", "upper", "part", "text", "money", "abs", "least", "most"}) {
      int end = 8 + function.length();
      error("let x = " + function, "1@" + end);
      error("let x = " + function + " a", "1@" + (end + 1));
      error("let x = " + function + "()", "1@" + (end + 1));
      error("let x = " + function + "(,a)", "1@" + (end + 1));
      error("let x = " + function + "(a,)", "1@" + (end + 3));
      error("let x = " + function + "(a,,a)", "1@" + (end + 3));
      error("let x = " + function + "(a b)", "1@" + (end + 3));
      error("let x = " + function + "(a", "1@" + (end + 2));
      error("let x = " + function + "(a,a,a,a)", "3@8");
    }
    error("let x = sum(a)", "1@8");
    error("let x = (a, a)", "1@10");
    error("let x = ()", "1@9");
  }

  /** "In a line, an expression reaches as far as possible; so a "-" behind an expression is always an operator." */
  private static void operatorsInLines() {
    Mill mill = new Mill().columns("a", "b", "t$");
    String[] programs = {"a -1", "a - 1", "a-1", "a (-1)", "a not b", "a : 3 -1", "a \"x\" & t 1", "a at 2 -1"};
    String[] due = {"2 0:1 7 30", "2 0:1 7 30", "2 0:1 7 30", "2 30 0:-1 30", "2 30 2:1 18 30", "2 30 0:-1 30",
        "2 30 1 2:2 11 30 0:1 30", "2 30 0:-1 30"};
    for (int i = 0; i < programs.length; i++) {
      CHECKS.same(programs[i], mill.error("band row line " + programs[i] + " end"), "0@-1");
      CHECKS.same("promise 12: " + programs[i], mill.code(), due[i]);
    }
    error("band row line a + end", "1@18");
    error("band row line a - - end", "1@20");
    error("band row line a = b = a end", "1@20");
    stands("band row line a = b (a) = a end");
  }

  /** "the end of the tape (at its length)". */
  private static void endOfTheTape() {
    for (String program : new String[] {"page", "page 10", "order", "order down", "group", "let", "let x", "let x =",
        "let x = 1 +", "let x = (", "let x = (1", "let x = len", "let x = len(", "let x = len(t", "let x = len(t,",
        "let x = -", "let x = not", "total", "total s", "total s =", "total s = sum", "total s = sum 1 per", "band",
        "band before", "band title", "band row line", "band row line a", "band row line a :", "band row line a : 1 left",
        "band row line at", "band row skip", "band row need", "band row eject", "band row keep", "band row if",
        "band row if a", "band row if a then", "band row if a then else"}) {
      error(program, "1@" + program.length());
      error(program + " ", "1@" + (program.length() + 1));
      error(program + " \n \n", "1@" + (program.length() + 4));
      error(program + " ".repeat(2000 - program.length()), "1@2000");
    }
  }

  /** An expression of so many tokens, the last one of which is a name. */
  private static String tokens(int many) {
    return (many % 2 == 0 ? "-a" : "a") + "+a".repeat((many - 1) / 2);
  }

  /** "The expression of a let, .. each with all that is in it, has at most 100 tokens." */
  private static void sizeOfLets() {
    stands("let x = " + tokens(99));
    stands("let x = " + tokens(100));
    error("let x = " + tokens(101), "1@" + (8 + tokens(101).length() - 1));
    error("let x = " + tokens(100) + "+", "1@" + (8 + tokens(100).length()));
    stands("let x = " + tokens(100) + " let y = " + tokens(100) + " let z = " + tokens(100));
  }

  private static void sizeOfTotals() {
    stands("total x = sum " + tokens(100));
    error("total x = sum " + tokens(101), "1@" + (14 + tokens(101).length() - 1));
    stands("total x = least " + tokens(100) + " per page total y = count " + tokens(100));
    stands("group a total x = sum " + tokens(100) + " per a");
  }

  private static void sizeOfPieces() {
    stands("band row line " + tokens(100) + " end");
    stands("band row line " + tokens(100) + " : 60 mid " + tokens(100) + " at 1 " + tokens(100) + " end");
    error("band row line " + tokens(101) + " end", "1@" + (14 + tokens(101).length() - 1));
    error("band row line a " + tokens(101) + " end", "1@" + (16 + tokens(101).length() - 1));
    stands("band row line " + tokens(100) + "(a) end");
    stands("band row line " + tokens(100) + "\"\"end");
    error("band row line " + tokens(100) + "-a end", "1@" + (14 + tokens(100).length()));
    error("band row line " + tokens(100) + "=a end", "1@" + (14 + tokens(100).length()));
    error("band row line " + tokens(100) + " and a end", "1@" + (15 + tokens(100).length()));
  }

  private static void sizeOfIfs() {
    stands("band row if " + tokens(100) + " then end end");
    error("band row if " + tokens(101) + " then end end", "1@" + (12 + tokens(101).length() - 1));
    stands("band row if " + tokens(100) + " then line " + tokens(100) + " else line " + tokens(100) + " end end");
    stands("band row if " + tokens(100) + " then if " + tokens(100) + " then end end end");
  }

  private static void sizeOfEvaluate() {
    CHECKS.same("promise 13: 99 tokens", new Mill().columns("a").cells(1).value(tokens(99), 0), "50");
    CHECKS.same("promise 13: 100 tokens", new Mill().columns("a").cells(1).value(tokens(100), 0), "48");
    CHECKS.same("promise 13: 101 tokens", new Mill().columns("a").cells(1).value(tokens(101), 0), "error 1@100");
    CHECKS.same("promise 13: the last one open", new Mill().columns("a").cells(1).value(tokens(98) + "+(", 0), "error 1@100");
    CHECKS.same("promise 13: the 101st", new Mill().columns("a").cells(1).value(tokens(98) + "+(a", 0), "error 1@100");
  }

  /** "the token that would be the 101st of an expression", whichever it is; all that is in it counts. */
  private static void tokenOneHundredAndOne() {
    String ninetyEight = tokens(98);
    int end = 8 + ninetyEight.length();
    for (String last : new String[] {"+a", "+1", "&\"\"", "&t", "+rowno", " and a", " or 1"}) {
      stands("let x = " + ninetyEight + last);
    }
    for (String more : new String[] {"+(", "+-", "+abs"}) {
      error("let x = " + ninetyEight + more, "1@" + (end + more.length()));
    }
    String[] wrong = {"+(a", "+-a", "+abs(", "+(1", "+(t", "+(rowno", "+((", "+(-"};
    int[] at = {2, 2, 4, 2, 2, 2, 2, 2};
    for (int i = 0; i < wrong.length; i++) {
      error("let x = " + ninetyEight + wrong[i], "1@" + (end + at[i]));
    }
    stands("let x = (" + tokens(98) + ")");
    error("let x = (" + tokens(99) + ")", "1@" + (9 + tokens(99).length()));
    stands("let x = least(" + tokens(95) + ",a)");
    error("let x = least(" + tokens(96) + ",a)", "1@" + (14 + tokens(96).length() + 2));
    error("let x = least(" + tokens(98) + ",a)", "1@" + (14 + tokens(98).length()));
    error("let x = " + tokens(101) + " let y = )", "1@" + (8 + tokens(101).length() - 1));
    error("let x = " + tokens(100) + " 1234567890", "1@" + (9 + tokens(100).length()));
  }

  /** "It may be at most 12"; "the "(" .. behind which the depth would be 13". */
  private static void depthOfParentheses() {
    stands("let x = " + OPENS + "a" + CLOSES);
    error("let x = " + OPENS + "(a)" + CLOSES, "1@20");
    error("let x = a + " + OPENS + "(", "1@24");
    stands("total x = sum " + OPENS + "a" + CLOSES);
    error("total x = sum " + OPENS + "(a" + CLOSES, "1@26");
  }

  private static void depthOfFunctions() {
    stands("let x = " + "abs(".repeat(12) + "a" + CLOSES);
    error("let x = " + "abs(".repeat(13) + "a" + CLOSES + ")", "1@" + (8 + 12 * 4 + 3));
    error("let x = " + OPENS + "abs(a)" + CLOSES, "1@23");
    stands("let x = " + OPENS.substring(1) + "most(a, b)" + CLOSES.substring(1));
    error("let x = " + OPENS.substring(1) + "most(a, (b))" + CLOSES.substring(1), "1@27");
    error("let x = " + OPENS.substring(1) + "most(a, -b)" + CLOSES.substring(1), "1@27");
  }

  /** "for the operand of a "-" or "not" (in front)". */
  private static void depthOfOperands() {
    stands("let x = " + "-".repeat(12) + "a");
    error("let x = " + "-".repeat(13) + "a", "1@20");
    stands("let x = " + "not ".repeat(12) + "a");
    error("let x = " + "not ".repeat(13) + "a", "1@56");
    stands("let x = " + "- not ".repeat(6) + "a");
    error("let x = " + "- not ".repeat(6) + "-a", "1@44");
    error("let x = " + "- not ".repeat(6) + "(a)", "1@44");
    error("let x = " + OPENS + "-a" + CLOSES, "1@20");
    error("let x = " + OPENS + "not a" + CLOSES, "1@20");
    stands("let x = " + OPENS + "a-a-a-a" + CLOSES);
    stands("let x = a" + "-a".repeat(49));
  }

  private static void depthOfKeeps() {
    stands("band row " + KEEPS + "line a skip 1 need 1 eject " + ENDS + "end");
    error("band row " + KEEPS + "keep end " + ENDS + "end", "1@69");
    error("band row " + KEEPS + "if a then end " + ENDS + "end", "1@69");
    stands("band row " + KEEPS + ENDS + KEEPS + ENDS + "end");
  }

  private static void depthOfIfs() {
    stands("band row " + "if a then ".repeat(12) + "line a " + ENDS + "end");
    error("band row " + "if a then ".repeat(13) + "line a " + ENDS + "end end", "1@129");
    error("band row " + "if a then ".repeat(12) + "keep end " + ENDS + "end", "1@129");
    stands("band row " + "if a then else ".repeat(12) + "line a " + ENDS + "end");
    error("band row " + "if a then else ".repeat(12) + "keep end " + ENDS + "end", "1@189");
    stands("band row " + "if a then else ".repeat(11) + "if a then line a else line a end " + ENDS.substring(4) + "end");
    error("band row " + "if a then ".repeat(11) + "if (a) then end " + ENDS.substring(4) + "end", "1@122");
    error("band row " + "if a then ".repeat(11) + "if -a then end " + ENDS.substring(4) + "end", "1@122");
    stands("band row " + "if a then ".repeat(10) + "if (a) then end " + ENDS.substring(8) + "end");
    error("band row " + "if a then ".repeat(10) + "if ((a)) then end " + ENDS.substring(8) + "end", "1@113");
    stands("band row if " + OPENS.substring(1) + "a" + CLOSES.substring(1) + " then end end");
    error("band row if " + OPENS + "a" + CLOSES + " then end end", "1@23");
  }

  private static void depthOfLines() {
    stands("band row line " + OPENS + "a" + CLOSES + " end");
    error("band row line (" + OPENS + "a" + CLOSES + ") end", "1@26");
    error("band row " + KEEPS + "line (a) " + ENDS + "end", "1@74");
    error("band row " + KEEPS + "line at 1 a : 3 -a " + ENDS + "end", "1@85");
    stands("band row " + KEEPS.substring(5) + "line (a) -a " + ENDS.substring(4) + "end");
    error("band row " + KEEPS.substring(5) + "line a ((a)) " + ENDS.substring(4) + "end", "1@72");
  }

  /** The depth is smaller again behind a ")", an operand, and an "end". */
  private static void depthComesBack() {
    stands("let x = " + OPENS + "a" + CLOSES + " + " + OPENS + "a" + CLOSES);
    stands("let x = " + OPENS + "a" + CLOSES + " + " + "-".repeat(12) + "a");
    stands("let x = " + OPENS.substring(1) + "(a) + (a) + -a + abs(a)" + CLOSES.substring(1));
    stands("let x = " + "-".repeat(12) + "a * " + "-".repeat(12) + "a");
    stands("let x = " + "-".repeat(11) + "(a) * -a");
    stands("band row " + KEEPS.substring(5) + "keep end keep end if a then else end line (a) line -a " + ENDS.substring(4) + "end");
    stands("band row " + KEEPS + ENDS + "line " + OPENS + "a" + CLOSES + " end band title " + KEEPS + ENDS + "end");
    error("band row " + KEEPS.substring(5) + "keep end keep keep end end " + ENDS.substring(4) + "end", "1@78");
  }

  private static void depthOfEvaluate() {
    value(OPENS + "7" + CLOSES, "7");
    value(OPENS + "(7" + CLOSES + ")", "error 1@12");
    value("-".repeat(12) + "7", "7");
    value("-".repeat(13) + "7", "error 1@12");
    value("not ".repeat(12) + "7", "1");
    value("not ".repeat(13) + "7", "error 1@48");
    value("abs(".repeat(12) + "7" + CLOSES, "7");
    value("abs(".repeat(13) + "7" + CLOSES + ")", "error 1@51");
    value("abs(".repeat(12) + "-7" + CLOSES, "error 1@48");
  }

  /** "Only if there is no error of form, the meaning is looked at". */
  private static void formAheadOfMeaning() {
    String[] wrong = {"page 9 4", "page 10 4 page 10 4", "order nix", "group nix", "group a group a", "let a = 1",
        "let x = nix", "let x = -t", "total s = sum t", "band before a end", "band row end band row end",
        "band top eject end", "band row line at 0 end", "band top skip 40 end"};
    for (String program : wrong) {
      error(program + " #", "1@" + (program.length() + 1));
      error(program + " 1234567890", "1@" + (program.length() + 1));
      error(program + " \"", "1@" + (program.length() + 1));
      error(program + " band", "1@" + (program.length() + 5));
    }
    value("nix + -\"\" + 1 / 0 )", "error 1@18");
    value("nix + (", "error 1@7");
  }
}
