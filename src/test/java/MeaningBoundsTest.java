/** The boundary cases of the errors 2 to 6: declarations, bands, types, and the order of the errors. */
public final class MeaningBoundsTest {
  private static final Checks CHECKS = new Checks();

  public static void main(String[] args) {
    inTheOrderOfTheProgram();
    operandsAheadOfOperators();
    widths();
    heights();
    onePage();
    sizesWithoutPage();
    fourOrders();
    columnsOfOrders();
    threeGroups();
    columnsOfGroups();
    eightLets();
    namesOfLets();
    namesInLets();
    eightTotals();
    namesOfTotals();
    namesInTotals();
    kindsOfTotals();
    columnsOfPer();
    eachBandOnce();
    columnsOfBands();
    namesInBands();
    itemsOfTopAndBottom();
    placesOfAt();
    widthsOfFields();
    numbersOfSkipAndNeed();
    conditionsOfIfs();
    heightsOfTopAndBottom();
    heightsBehindAllOtherErrors();
    typesOfOperators();
    typesOfJoin();
    typesOfFunctions();
    numbersOfArguments();
    CHECKS.end();
  }

  private static void error(String program, String due) {
    CHECKS.same("promise 10: " + program, new Mill().columns("a", "b", "t$", "u$").error(program), due);
  }

  private static void stands(String program) {
    error(program, "0@-1");
  }

  private static void value(String expression, String due) {
    CHECKS.same("promise 13: " + expression, new Mill().columns("a", "b", "t$", "u$").value(expression), due);
  }

  private static String numbered(String pattern, int many) {
    StringBuilder text = new StringBuilder();
    for (int i = 0; i < many; i++) {
      text.append(pattern.replace("#", "" + i));
    }
    return text.toString();
  }

  /** "the first of the errors below, in the order of the program". */
  private static void inTheOrderOfTheProgram() {
    String[] wrong = {"page 9 4", "order nix", "group nix", "group a group a", "let a = 1", "let x = nix", "let y = -t",
        "total s = sum t", "total r = sum a per a"};
    String[] due = {"6@5", "2@6", "2@6", "5@14", "5@4", "2@8", "3@8", "3@10", "2@20"};
    for (int i = 0; i < wrong.length; i++) {
      for (int k = 0; k < wrong.length; k++) {
        if (k != i) {
          error(wrong[i] + " " + wrong[k], due[i]);
        }
      }
      error(wrong[i] + " band row line nix end", due[i]);
      error(wrong[i] + " band row end band row end", due[i]);
      error(wrong[i] + " band top skip 40 end", due[i]);
    }
  }

  /** "in an expression, operands and arguments come ahead of their operator or function, left ahead of right." */
  private static void operandsAheadOfOperators() {
    value("nix + nox", "error 2@0");
    value("a + nox", "error 2@4");
    value("t + nox", "error 2@4");
    value("nix + t", "error 2@0");
    value("t + t + nox", "error 3@2");
    value("nox + t + t", "error 2@0");
    value("a + t * nox", "error 2@8");
    value("a + t * b", "error 3@6");
    value("(a + t) + (b + u)", "error 3@3");
    value("t < a and nox", "error 3@2");
    value("a and t or nox", "error 3@2");
    value("t or t and nox", "error 2@11");
    value("-nox + -t", "error 2@1");
    value("-(t + nox)", "error 2@6");
    value("not -t", "error 3@4");
    value("len(nix, nox)", "error 2@4");
    value("len(1, nox)", "error 2@7");
    value("len(upper(1), nox)", "error 3@4");
    value("part(1, -t, nox)", "error 3@8");
    value("least(t, len(1))", "error 3@9");
    value("len(1) + nox", "error 3@0");
    value("t & nox & -t", "error 2@4");
  }

  /** "w from 10 to 60 .. (error 6)", at the number. */
  private static void widths() {
    stands("page 10 20");
    stands("page 11 20");
    stands("page 59 20");
    stands("page 60 20");
    error("page 9 20", "6@5");
    error("page 61 20", "6@5");
    error("page 0 20", "6@5");
    error("page 999999999 20", "6@5");
    for (int width : new int[] {10, 60}) {
      Mill mill = new Mill();
      mill.compile("page " + width + " 20");
      CHECKS.same("promise 18: width", mill.mill.size(false), width);
    }
  }

  /** "h from 4 to 40 (error 6)". */
  private static void heights() {
    stands("page 20 4");
    stands("page 20 5");
    stands("page 20 39");
    stands("page 20 40");
    error("page 20 3", "6@8");
    error("page 20 41", "6@8");
    error("page 20 0", "6@8");
    error("page 20 999999999", "6@8");
    error("page 9 3", "6@5");
    error("page 61 41", "6@5");
    for (int height : new int[] {4, 40}) {
      Mill mill = new Mill();
      mill.compile("page 20 " + height);
      CHECKS.same("promise 18: height", mill.mill.size(true), height);
    }
  }

  /** "only once (error 4, ahead of error 6)", at the first token of the declaration. */
  private static void onePage() {
    error("page 10 4 page 10 4", "4@10");
    error("page 10 4 page 9 4", "4@10");
    error("page 10 4 page 10 3", "4@10");
    error("page 10 4 let x = 1 page 61 41", "4@20");
    error("page 9 4 page 10 4", "6@5");
    error("page 10 4\n\npage 10 4 page 10 4", "4@11");
  }

  /** "Without it w is 40, and h is 20." */
  private static void sizesWithoutPage() {
    Mill mill = new Mill();
    mill.compile("");
    CHECKS.same("promise 18: width", mill.mill.size(false), 40);
    CHECKS.same("promise 18: height", mill.mill.size(true), 20);
    stands("band row line at 40 end");
    error("band row line at 41 end", "6@17");
    stands("band top skip 19 end");
    error("band top skip 20 end", "6@20");
    mill.compile("page 60 40");
    mill.compile("let x = 1");
    CHECKS.same("promise 18: width behind another program", mill.mill.size(false), 40);
    CHECKS.same("promise 18: height behind another program", mill.mill.size(true), 20);
  }

  /** "order [down] c: at most 4 (error 4)". */
  private static void fourOrders() {
    stands("order a");
    stands("order a order b order t");
    stands("order a order b order t order u");
    stands("order down a order down a order down a order down a");
    error("order a order b order t order u order a", "4@32");
    error("order a order b order t order u order down nix", "4@32");
    error("order a order b order t order u let x = 1 order a order a", "4@42");
    error("order a order b order t order nix order a", "2@30");
  }

  /** "c is a column (error 2)", at the name. */
  private static void columnsOfOrders() {
    error("order nix", "2@6");
    error("order down nix", "2@11");
    error("let x = a order x", "2@16");
    error("total x = sum a order x", "2@22");
    CHECKS.same("promise 10: no columns", new Mill().error("order a"), "2@6");
    CHECKS.same("promise 10: the last column", new Mill().columns("a", "b", "c", "d", "e", "f", "g", "h").error("order h group h"),
        "0@-1");
  }

  /** "group c: at most 3 (error 4)". */
  private static void threeGroups() {
    stands("group a group b");
    stands("group a group b group t");
    error("group a group b group t group u", "4@24");
    error("group a group b group t group a", "4@24");
    error("group a group b group t group nix", "4@24");
    error("group a group b group nix group t", "2@22");
  }

  /** "c is a column (error 2), and not a group already (error 5)." */
  private static void columnsOfGroups() {
    error("group nix", "2@6");
    error("let x = a group x", "2@16");
    error("group a group a", "5@14");
    error("group a group b group a", "5@22");
    error("group a group b group b", "5@22");
    error("group nix group nix", "2@6");
    CHECKS.same("promise 10: no columns", new Mill().error("group a"), "2@6");
    stands("order a group a");
  }

  /** "let x = e: at most 8 (error 4)". */
  private static void eightLets() {
    String eight = numbered("let x# = 1 ", 8);
    stands(numbered("let x# = 1 ", 7));
    stands(eight);
    error(eight + "let x8 = 1", "4@88");
    error(eight + "let x0 = 1", "4@88");
    error(eight + "let a = nix", "4@88");
    error(eight + "order a let x8 = -t", "4@96");
    stands(eight + numbered("total y# = sum x# ", 8));
  }

  /** "x means nothing yet (error 5)". */
  private static void namesOfLets() {
    for (String name : new String[] {"a", "b", "t", "u"}) {
      error("let " + name + " = 1", "5@4");
    }
    error("let x = 1 let x = 1", "5@14");
    error("let x = 1 let y = 1 let x = nix", "5@24");
    error("total x = sum 1 let x = 1", "5@20");
    error("group a let a = 1", "5@12");
    stands("let x = 1 let xx = 1 let x1 = 1");
    CHECKS.same("promise 10: no columns", new Mill().error("let a = 1"), "0@-1");
  }

  /** "columns, lets ahead of this one and rowno can be used (other names, also pageno and pages: error 2)". */
  private static void namesInLets() {
    stands("let x = a & t & rowno let y = x & u let z = x & y");
    error("let x = x", "2@8");
    error("let x = y let y = 1", "2@8");
    error("let x = pageno", "2@8");
    error("let x = pages", "2@8");
    error("let x = 1 + (2 - pageno)", "2@17");
    error("total y = sum 1 let x = y", "2@24");
    error("let x = -t & pageno", "3@8");
    error("let x = pages + t", "2@8");
  }

  /** "total x = kind e [per p]: at most 8 (error 4)". */
  private static void eightTotals() {
    String eight = numbered("total x# = sum 1 ", 8);
    stands(numbered("total x# = sum 1 ", 7));
    stands(eight);
    error(eight + "total x8 = sum 1", "4@136");
    error(eight + "total x0 = sum t per nix", "4@136");
    stands(eight + numbered("let y# = 1 ", 8));
  }

  private static void namesOfTotals() {
    for (String name : new String[] {"a", "b", "t", "u"}) {
      error("total " + name + " = sum 1", "5@6");
    }
    error("total x = sum 1 total x = sum 1", "5@22");
    error("total x = sum 1 total y = sum 1 total x = sum t", "5@38");
    error("let x = 1 total x = sum nix per nix", "5@16");
    stands("total x = sum 1 total xx = sum 1");
  }

  /** "the expression, as in a let". */
  private static void namesInTotals() {
    stands("let y = 1 total x = last a & t & y & rowno");
    error("total x = sum x", "2@14");
    error("total x = sum 1 total y = sum x", "2@30");
    error("total x = sum y let y = 1", "2@14");
    error("total x = sum pageno", "2@14");
    error("total x = count pages per page", "2@16");
  }

  /** "sum wants a number (error 3, at the kind)"; "count is a number .. The others have the type of e." */
  private static void kindsOfTotals() {
    for (String kind : new String[] {"count", "least", "most", "first", "last"}) {
      stands("total x = " + kind + " a total y = " + kind + " t");
      String use = kind.equals("count") ? "0@-1" : "3@" + (27 + kind.length());
      error("total x = " + kind + " t band row line -x end", use);
      stands("total x = " + kind + " a band row line -x end");
    }
    stands("total x = sum a");
    error("total x = sum t", "3@10");
    error("total x = sum \"\" per nix", "3@10");
    error("total x = sum -t", "3@14");
    error("total x = sum t & nix", "2@18");
    error("total x = sum nix", "2@14");
    stands("total x = sum len(t)");
    stands("total x = least least(a, b) total y = most most(a, b) total z = least (a)");
  }

  /** "p is the column of a group that is declared ahead (error 2, at the name)". */
  private static void columnsOfPer() {
    stands("group a total x = sum a per a");
    stands("group a group b group t total x = sum a per a total y = sum a per b total z = sum a per t");
    error("total x = sum a per a", "2@20");
    error("total x = sum a per a group a", "2@20");
    error("group a total x = sum a per b", "2@28");
    error("group a total x = sum a per b group b", "2@28");
    error("group a total x = sum a per nix", "2@28");
    error("group a let y = a total x = sum a per y", "2@38");
    stands("total x = sum a per page");
    error("total x = sum a per nix let a = 1", "2@20");
  }

  /** "Each band is there at most once, before and after once for each group (error 4, at "band")". */
  private static void eachBandOnce() {
    String[] bands = {"title", "top", "bottom", "before a", "before b", "before t", "row", "after a", "after b", "after t", "summary"};
    StringBuilder all = new StringBuilder("group a group b group t");
    for (String band : bands) {
      all.append(" band ").append(band).append(" end");
    }
    stands(all.toString());
    for (String band : bands) {
      error(all + " band " + band + " end", "4@" + (all.length() + 1));
      error(all + " band " + band + " line nix end", "4@" + (all.length() + 1));
      error("group a group b group t band " + band + " line nix end band " + band + " end", "2@" + (35 + band.length()));
      error("group a group b group t band " + band + " end\nband " + band + " end", "4@" + (34 + band.length()));
    }
  }

  /** "the name of before and after is the column of a group (error 2)". */
  private static void columnsOfBands() {
    for (String band : new String[] {"before", "after"}) {
      stands("group a band " + band + " a end");
      error("band " + band + " a end", "2@" + (6 + band.length()));
      error("group a band " + band + " b end", "2@" + (14 + band.length()));
      error("group a band " + band + " nix line nox end", "2@" + (14 + band.length()));
      error("group a let x = a band " + band + " x end", "2@" + (24 + band.length()));
      error("group a band " + band + " a end band " + band + " b end", "2@" + (26 + 2 * band.length()));
    }
  }

  /** "All that is declared can be used in the expressions of bands, wherever it stands ahead of them." */
  private static void namesInBands() {
    String head = "group a let x = 1 total y = sum 1 ";
    for (String band : new String[] {"title", "top", "bottom", "before a", "row", "after a", "summary"}) {
      stands(head + "band " + band + " line a t x y pageno pages rowno end");
      error(head + "band " + band + " line nix end", "2@" + (head.length() + 11 + band.length()));
    }
    for (String band : new String[] {"title", "before a", "row", "after a", "summary"}) {
      stands(head + "band " + band + " if x + y + pageno + pages + rowno then end end");
      error(head + "band " + band + " if nix then end end", "2@" + (head.length() + 9 + band.length()));
    }
    error("band row line x end", "2@14");
  }

  /** "In top and bottom only line, skip and the pieces in them are allowed (error 6, at the item, ahead of all errors in it)." */
  private static void itemsOfTopAndBottom() {
    for (String band : new String[] {"top", "bottom"}) {
      int at = 6 + band.length();
      stands("band " + band + " line at 40 a : 60 mid skip 1 line skip 2 end");
      for (String item : new String[] {"need 1", "need 0", "need 41", "eject", "keep end", "keep line nix end", "keep eject end",
          "if a then end", "if t then end", "if nix then end", "if a then line nix else skip 0 end"}) {
        error("band " + band + " " + item + " end", "6@" + at);
        error("band " + band + " line " + item + " end", "6@" + (at + 5));
        error("band " + band + " line nix " + item + " end", "2@" + (at + 5));
        error("band " + band + " " + item + " line nix end", "6@" + at);
      }
      error("band " + band + " skip 0 eject end", "6@" + (at + 5));
      error("band " + band + " line at 0 eject end", "6@" + (at + 8));
    }
    for (String band : new String[] {"title", "row", "summary"}) {
      stands("band " + band + " line skip 1 need 1 eject keep eject end if a then need 1 else keep end end end");
    }
  }

  /** "at n: 1 to w". */
  private static void placesOfAt() {
    for (int width : new int[] {10, 11, 59, 60}) {
      String head = "page " + width + " 4 band row line at ";
      stands(head + "1 end");
      stands(head + width + " end");
      error(head + "0 end", "6@" + head.length());
      error(head + (width + 1) + " end", "6@" + head.length());
      error(head + "999999999 end", "6@" + head.length());
      error(head + width + " a at 1 b at " + (width + 1) + " nix end", "6@" + (head.length() + 15));
    }
    error("page 10 4 band bottom line at 11 end", "6@30");
    error("band row line at 0 nix end", "6@17");
    error("band row line nix at 0 end", "2@14");
  }

  /** "the number behind ":": 1 to 60". */
  private static void widthsOfFields() {
    for (int width : new int[] {10, 60}) {
      String head = "page " + width + " 4 band row line a : ";
      stands(head + "1 end");
      stands(head + "60 mid end");
      error(head + "0 end", "6@" + head.length());
      error(head + "61 end", "6@" + head.length());
      error(head + "999999999 left end", "6@" + head.length());
    }
    error("band row line nix : 0 end", "2@14");
    error("band row line -t : 61 end", "3@14");
    error("band row line a : 0 nix end", "6@18");
  }

  /** "skip n and need n: 1 to 40 (all error 6)". */
  private static void numbersOfSkipAndNeed() {
    for (String item : new String[] {"skip", "need"}) {
      stands("band row " + item + " 1 end");
      stands("band row " + item + " 40 end");
      error("band row " + item + " 0 end", "6@14");
      error("band row " + item + " 41 end", "6@14");
      error("band row " + item + " 999999999 end", "6@14");
      stands("page 10 4 band row " + item + " 40 end");
      error("band row keep " + item + " 0 end end", "6@19");
      error("band row if a then " + item + " 41 end end", "6@24");
      error("band row if a then else " + item + " 0 end end", "6@29");
    }
    error("band top skip 0 end", "6@14");
    error("band bottom skip 41 end", "6@17");
  }

  /** "The condition of an if is a number (error 3, at the "if"; behind the errors of the condition, ahead of those of its items)." */
  private static void conditionsOfIfs() {
    stands("band row if a then end end");
    stands("band row if t = u then end end");
    error("band row if t then end end", "3@9");
    error("band row if \"\" then line nix else line nox end end", "3@9");
    error("band row if t & nix then line nox end end", "2@16");
    error("band row if -t then end end", "3@12");
    error("band row if a then line nix else line nox end end", "2@24");
    error("band row if a then line else line nox end end", "2@34");
    error("band row if a then if t then line nix end end end", "3@19");
    error("band row keep if upper(t) then end end end", "3@14");
  }

  /** "the heights of top and bottom (the lines and the numbers of skips in them) are together less than h". */
  private static void heightsOfTopAndBottom() {
    for (int height : new int[] {4, 5, 40}) {
      String head = "page 10 " + height + " ";
      String[] most = {"band top skip " + (height - 1) + " end", "band bottom skip " + (height - 1) + " end",
          "band top skip " + (height - 2) + " line end", "band top line end band bottom skip " + (height - 2) + " end",
          "band top " + "line ".repeat(height - 1) + "end", "band bottom " + "line a ".repeat(height - 1) + "end"};
      String[] tooMuch = {"band top skip " + height + " end", "band bottom skip " + height + " end",
          "band top skip " + (height - 1) + " line end", "band top line end band bottom skip " + (height - 1) + " end",
          "band top " + "line ".repeat(height) + "end", "band bottom " + "line a ".repeat(height) + "end",
          "band top skip 1 skip " + (height - 1) + " end", "band bottom line end band top skip " + (height - 1) + " end"};
      for (String bands : most) {
        stands(head + bands);
      }
      for (String bands : tooMuch) {
        error(head + bands, "6@" + (head + bands).length());
        error(head + bands + " \n ", "6@" + ((head + bands).length() + 3));
      }
    }
    stands("page 10 4 band row skip 40 end band title line line line line line end band summary skip 40 end");
  }

  /** "Behind all other errors: the heights". */
  private static void heightsBehindAllOtherErrors() {
    error("band top skip 20 end", "6@20");
    error("band top skip 20 end band row line nix end", "2@35");
    error("band top skip 20 end band top end", "4@21");
    error("band bottom skip 40 end band row skip 41 end", "6@38");
    error("band bottom skip 40 end band row skip 40 end", "6@44");
    error("page 10 4 band top skip 4 end band row line at 11 end", "6@47");
  }

  /** "+ - * / %, - in front: numbers", and so on: "types that do not fit (at the operator ..)". */
  private static void typesOfOperators() {
    String[] operators = {"+", "-", "*", "/", "%", "and", "or"};
    String[] due = {"10", "4", "21", "2", "1", "1", "1"};
    for (int i = 0; i < operators.length; i++) {
      String operator = operators[i];
      value("7 " + operator + " 3", due[i]);
      value("a " + operator + " t", "error 3@2");
      value("t " + operator + " a", "error 3@2");
      value("t " + operator + " t", "error 3@2");
      value("(a & b) " + operator + " 1", "error 3@8");
      value("1 " + operator + " (a & b)", "error 3@2");
    }
    for (String operator : new String[] {"=", "<>", "<", ">", "<=", ">="}) {
      value("a " + operator + " t", "error 3@2");
      value("t " + operator + " a", "error 3@2");
      value("(a " + operator + " b) + (t " + operator + " u)", operator.contains("=") ? "2" : "0");
      value("-(t " + operator + " \"x\")", operator.contains("<") ? "-1" : "0");
    }
    value("-t", "error 3@0");
    value("not t", "error 3@0");
    value("-(a & b)", "error 3@0");
    value("not upper(t)", "error 3@0");
  }

  /** "&: each operand a number or a text; the result is the text of both". */
  private static void typesOfJoin() {
    value("1 & 2", "'12'");
    value("1 & \"x\"", "'1x'");
    value("\"x\" & 1", "'x1'");
    value("\"x\" & \"y\"", "'xy'");
    value("\"\" & \"\"", "''");
    value("-(1 & 2)", "error 3@0");
    value("len(1 & 2)", "2");
  }

  /** What the functions take and make. */
  private static void typesOfFunctions() {
    value("len(a)", "error 3@0");
    value("upper(a)", "error 3@0");
    value("part(a, 0, 1)", "error 3@0");
    value("part(t, u, 1)", "error 3@0");
    value("part(t, 0, u)", "error 3@0");
    for (String function : new String[] {"text", "money", "abs"}) {
      value(function + "(t)", "error 3@0");
      value("1 + " + function + "(t)", "error 3@4");
    }
    for (String function : new String[] {"least", "most"}) {
      value(function + "(t, 1)", "error 3@0");
      value(function + "(1, t)", "error 3@0");
      value(function + "(t, u)", "error 3@0");
      value("-" + function + "(1, 2)", function.equals("least") ? "-1" : "-2");
    }
    value("-len(t)", "0");
    value("-abs(3)", "-3");
    for (String call : new String[] {"upper(t)", "part(t, 0, 1)", "text(1)", "money(1)"}) {
      value("-" + call, "error 3@0");
      value("len(" + call + ") * 0", "0");
    }
  }

  /** "The wrong number of arguments is error 3, too." */
  private static void numbersOfArguments() {
    String[] functions = {"len", "upper", "part", "text", "money", "abs", "least", "most"};
    String[] first = {"t", "t", "t", "a", "a", "a", "a", "a"};
    int[] due = {1, 1, 3, 1, 1, 1, 2, 2};
    for (int i = 0; i < functions.length; i++) {
      for (int arguments = 1; arguments <= 6; arguments++) {
        String call = functions[i] + "(" + first[i] + ", 1".repeat(arguments - 1) + ")";
        error("let x = " + call, arguments == due[i] ? "0@-1" : "3@8");
      }
      error("let x = 1 & " + functions[i] + "(" + first[i] + ", 1, 1, nix)", "2@" + (22 + functions[i].length()));
    }
    error("let x = most(" + "1,".repeat(48) + "1)", "3@8");
    error("let x = most(" + "1,".repeat(49) + "1)", "1@" + (13 + 98));
  }
}
