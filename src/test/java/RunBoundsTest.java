/** The boundary cases of section 4's run (rows, groups, totals, errors) and of promises 16, 17 and 21 to 23. */
public final class RunBoundsTest {
  private static final Checks CHECKS = new Checks();

  public static void main(String[] args) {
    fourRuns();
    fourRunsWithErrors();
    noRows();
    oneRow();
    fortyRows();
    sortingOfNumbers();
    sortingOfTexts();
    fourOrders();
    sameInAllOrders();
    allGroupsWithTheFirstRow();
    outermostGroupThatBreaks();
    threeGroups();
    groupsOfTexts();
    aheadOfTheFirstRow();
    valuesOfTheRowBefore();
    eightLets();
    nothingTakenIn();
    sumsWrapAround();
    leastAndMost();
    firstAndLast();
    counts();
    textsOfTotals();
    sixtyBytes();
    totalsPerGroup();
    totalsPerPage();
    divisionsInLets();
    divisionsInTotals();
    divisionsInPieces();
    divisionsInConditions();
    divisionsInBands();
    divisionsThatAreNotReckoned();
    pagesOfTheFirstRun();
    errorOfTheFirstRun();
    errorOfTheSecondRun();
    toldOfNoRun();
    toldOfALaterRun();
    takenRows();
    totalsAtTheEnd();
    brokenGroups();
    asLongAsTheProgramIsThere();
    CHECKS.end();
  }

  /** Runs a program and holds its pages against the due ones. */
  private static void pages(String what, Mill mill, String program, String due) {
    CHECKS.same(what + ": " + program, mill.error(program), "0@-1");
    mill.mill.run();
    CHECKS.same(what + ": " + program, mill.pagesLike(due), due);
  }

  /** What told() tells, in its order. */
  private static void told(String what, Mill mill, int... due) {
    for (int i = 0; i < due.length; i++) {
      CHECKS.same("promise 17: " + what + ", " + i, mill.mill.told(i), due[i]);
    }
  }

  /** "a program can be run 4 times." */
  private static void fourRuns() {
    Mill mill = new Mill();
    for (String program : new String[] {"", "let x = 1", "page 60 40"}) {
      mill.compile(program);
      for (int i = 1; i <= 4; i++) {
        CHECKS.same("promise 16: run " + i, mill.mill.run(), 0);
      }
      for (int i = 5; i <= 6; i++) {
        CHECKS.fails("promise 16: run " + i, IllegalStateException.class, mill.mill::run);
      }
    }
  }

  private static void fourRunsWithErrors() {
    Mill mill = new Mill().columns("n").cells(0);
    mill.compile("page 10 4 band row line 1 / n end");
    CHECKS.same("promise 16: an error is a run", mill.mill.run(), 2);
    mill.mill.clear();
    CHECKS.same("promise 16: run 2", mill.mill.run(), 0);
    mill.cells(1);
    CHECKS.same("promise 16: run 3", mill.mill.run(), 0);
    CHECKS.same("promise 16: what the new row prints", mill.pagesLike("1|||"), "1|||");
    mill.cells(0);
    CHECKS.same("promise 16: run 4", mill.mill.run(), 2);
    CHECKS.fails("promise 16: run 5", IllegalStateException.class, mill.mill::run);
    CHECKS.same("promise 17: told stays", mill.mill.told(4), 2);
  }

  /** "Behind the last row the bands after of all groups are done .. (if there were rows)". */
  private static void noRows() {
    String program = "page 10 4 order n group n group t let x = n + 1 total s = sum n band title line \"T\" n t x s end"
        + " band before n line \"B\" end band row line \"R\" end band after t line \"A\" end band summary line \"S\" n t x s end";
    Mill mill = new Mill().columns("n", "t$");
    pages("no rows", mill, program, "T000|S000||");
    told("no rows", mill, 1, 1, 0, 2, 0);
    CHECKS.same("promise 23: no rows", mill.mill.broke(0) + mill.mill.broke(1), 0);
    CHECKS.same("promise 22: no rows", mill.mill.total(0), 0);
    CHECKS.fails("promise 21: no rows", IndexOutOfBoundsException.class, () -> mill.mill.taken(0));
    pages("half a row", new Mill().columns("n", "t$").cells(7), program, "T000|S000||");
    pages("no columns", new Mill(), "page 10 4 band row line \"R\" end band summary line \"S\" rowno end", "S0|||");
  }

  private static void oneRow() {
    Mill mill = new Mill().columns("n").cells(5);
    pages("one row", mill, "page 10 4 group n band before n line \"B\" n end band row line \"R\" rowno end band after n line \"A\" n"
        + " end band summary line \"S\" rowno end", "B5|R1|A5|S1");
    told("one row", mill, 1, 1, 1, 4, 0);
    CHECKS.same("promise 21: one row", mill.mill.taken(0), 0);
    CHECKS.same("promise 23: one row", mill.mill.broke(0), 1);
  }

  private static void fortyRows() {
    Mill mill = new Mill().columns("n");
    for (int row = 0; row < 40; row++) {
      mill.cells(row * 3 % 40);
    }
    CHECKS.same("forty rows", mill.compile("page 10 40 order n group n total s = sum n band row line n rowno : 3 end"), 0);
    CHECKS.same("promise 16: forty rows", mill.mill.run(), 0);
    told("forty rows", mill, 1, 1, 40, 40, 0);
    CHECKS.same("promise 22: forty rows", mill.mill.total(0), 780);
    CHECKS.same("promise 23: forty rows", mill.mill.broke(0), 40);
    for (int place = 0; place < 40; place++) {
      CHECKS.same("promise 21: place " + place, mill.mill.taken(place) * 3 % 40, place);
      CHECKS.same("promise 20: line " + place, mill.mill.lineSum(1, place + 1),
          Mill.sum(place + (place < 9 ? "  " : " ") + (place + 1), 10));
    }
    CHECKS.fails("promise 21: place 40", IndexOutOfBoundsException.class, () -> mill.mill.taken(40));
  }

  private static void order(Mill mill, String program, String due) {
    mill.compile(program);
    mill.mill.run();
    StringBuilder rows = new StringBuilder();
    for (int i = 0; i < mill.mill.told(2); i++) {
      rows.append(i == 0 ? "" : " ").append(mill.mill.taken(i));
    }
    CHECKS.same("promise 21: " + program, rows.toString(), due);
  }

  /** "ascending, or descending with down", from the least to the greatest number. */
  private static void sortingOfNumbers() {
    Mill mill = new Mill().columns("n").cells(0, Long.MAX_VALUE, -1, Long.MIN_VALUE, 1, Long.MAX_VALUE - 1, Long.MIN_VALUE + 1);
    order(mill, "order n", "3 6 2 0 4 5 1");
    order(mill, "order down n", "1 5 4 0 2 6 3");
    order(mill, "", "0 1 2 3 4 5 6");
  }

  /** "texts are ordered by their bytes (a text that is the beginning of another one comes first)". */
  private static void sortingOfTexts() {
    Mill mill = new Mill().columns("t$").cells("ab", "", "~~~~~~~~", "a", " ", "abcdefgh", "        ", "abcdefg", "b", "~");
    order(mill, "order t", "1 4 6 3 0 7 5 8 9 2");
    order(mill, "order down t", "2 9 8 5 7 0 3 6 4 1");
  }

  /** "those with the same value there by the second one, and so on". */
  private static void fourOrders() {
    Mill mill = new Mill().columns("a", "b", "c", "d$");
    for (int row = 0; row < 16; row++) {
      mill.cells(row >> 3 & 1, row >> 2 & 1, row >> 1 & 1, row % 2 == 0 ? "x" : "y");
    }
    order(mill, "order a order b order c order d", "0 1 2 3 4 5 6 7 8 9 10 11 12 13 14 15");
    order(mill, "order down a order down b order down c order down d", "15 14 13 12 11 10 9 8 7 6 5 4 3 2 1 0");
    order(mill, "order a order b order c order down d", "1 0 3 2 5 4 7 6 9 8 11 10 13 12 15 14");
    order(mill, "order d order c order b order a", "0 8 4 12 2 10 6 14 1 9 5 13 3 11 7 15");
    order(mill, "order a order down a order b order c", "0 1 2 3 4 5 6 7 8 9 10 11 12 13 14 15");
  }

  /** "rows that are the same in all of them stay in the order of their numbers." */
  private static void sameInAllOrders() {
    Mill mill = new Mill().columns("n").cells(5, 5, 5, 4, 4, 5, 4);
    order(mill, "order n", "3 4 6 0 1 2 5");
    order(mill, "order down n", "0 1 2 5 3 4 6");
    order(mill, "order n order n order down n", "3 4 6 0 1 2 5");
  }

  private static String letters(String names) {
    StringBuilder bands = new StringBuilder();
    for (String name : names.split(" ")) {
      bands.append(" band before ").append(name).append(" line \"").append(name.toUpperCase()).append("\" end");
      bands.append(" band after ").append(name).append(" line \"").append(name).append("\" end");
    }
    return bands.toString();
  }

  /** "(all groups with the first row)". */
  private static void allGroupsWithTheFirstRow() {
    Mill mill = new Mill().columns("a", "b", "c").cells(0, 0, 0);
    pages("first row", mill, "page 10 6 group a group b group c" + letters("a b c"), "A|B|C|c|b|a");
    Mill texts = new Mill().columns("a$", "b$", "c$").cells("", "", "");
    pages("first row", texts, "page 10 6 group a group b group c" + letters("a b c"), "A|B|C|c|b|a");
    for (int group = 0; group < 3; group++) {
      CHECKS.same("promise 23: group " + group, mill.mill.broke(group), 1);
      CHECKS.same("promise 23: group " + group, texts.mill.broke(group), 1);
    }
  }

  /** "The outermost group whose column has another value than in the row before breaks, and all groups within it". */
  private static void outermostGroupThatBreaks() {
    String program = "page 10 12 group a group b group c" + letters("a b c");
    String[] due = {"A|B|C|c|b|a||||||", "A|B|C|c|C|c|b|a||||", "A|B|C|c|b|B|C|c|b|a||", "A|B|C|c|b|B|C|c|b|a||",
        "A|B|C|c|b|a|A|B|C|c|b|a"};
    int[][] second = {{1, 1, 1}, {1, 1, 2}, {1, 2, 1}, {1, 2, 2}, {2, 1, 1}};
    int[][] breaks = {{1, 1, 1}, {1, 1, 2}, {1, 2, 2}, {1, 2, 2}, {2, 2, 2}};
    for (int i = 0; i < due.length; i++) {
      Mill mill = new Mill().columns("a", "b", "c").cells(1, 1, 1, second[i][0], second[i][1], second[i][2]);
      pages("two rows", mill, program, due[i]);
      for (int group = 0; group < 3; group++) {
        CHECKS.same("promise 23: group " + group, mill.mill.broke(group), breaks[i][group]);
      }
    }
  }

  private static void threeGroups() {
    Mill mill = new Mill().columns("a", "b", "c").cells(1, 2, 3, 1, 2, 3);
    pages("another order of groups", mill, "page 10 6 group c group a group b" + letters("a b c"), "C|A|B|b|a|c");
    pages("one group of three columns", mill, "page 10 4 group b" + letters("b"), "B|b||");
    pages("no group", mill, "page 10 4 band row line rowno end", "1|2||");
  }

  private static void groupsOfTexts() {
    Mill mill = new Mill().columns("t$").cells("", "a", "a", "aa", "", "");
    pages("texts", mill, "page 10 8 group t" + letters("t"), "T|t|T|t|T|t|T|t");
    CHECKS.same("promise 23: texts", mill.mill.broke(0), 4);
    Mill numbers = new Mill().columns("n").cells(Long.MIN_VALUE, Long.MAX_VALUE, Long.MAX_VALUE, -1, 0);
    pages("numbers", numbers, "page 10 8 group n" + letters("n"), "N|n|N|n|N|n|N|n");
    CHECKS.same("promise 23: numbers", numbers.mill.broke(0), 4);
  }

  /** "ahead of the first one numbers are 0 and texts empty", in each of the runs. */
  private static void aheadOfTheFirstRow() {
    Mill mill = new Mill().columns("n", "t$").cells(5, "abc");
    String program = "page 30 5 group n let x = n + 7 let y = t & 1 let z = 3 let w = \"w\" total s = sum 1 total l = last t"
        + " band top line \"P\" n t x y z w s l rowno end band title line \"T\" n t x y z w s l rowno end"
        + " band before n line \"B\" n t x y z w s l rowno end band summary line \"S\" n t x y z w s l rowno end";
    String due = "P00000|T00000|B5abc12abc13w01|S5abc12abc13w1abc1|";
    pages("ahead of the first row", mill, program, due);
    mill.mill.run();
    CHECKS.same("promise 16: another run", mill.pagesLike(due), due);
  }

  /** "the bands after .. with the values of that row." */
  private static void valuesOfTheRowBefore() {
    Mill mill = new Mill().columns("n", "t$").cells(1, "a", 2, "b");
    pages("the row before", mill, "page 20 6 group n let x = n * 10 total s = sum n per n total r = sum n"
        + " band after n line \"-\" n t x rowno s r end band before n line \"+\" n t x rowno s r end"
        + " band row line \"=\" n t x rowno s r end",
        "+1a10100|=1a10111|-1a10111|+2b20201|=2b20223|-2b20223");
  }

  private static void eightLets() {
    Mill mill = new Mill().columns("n").cells(1);
    pages("eight lets", mill, "page 10 4 let a = n + 1 let b = a + 1 let c = b + 1 let d = c + 1 let e = d + 1 let f = e + 1"
        + " let g = f + 1 let h = g + 1 band row line a b c d e f g h end", "23456789|||");
  }

  /** "A total that has taken nothing in since then is 0 or an empty text." */
  private static void nothingTakenIn() {
    Mill mill = new Mill().columns("n", "t$");
    String totals = "page 30 4 group n total a = sum 5 total b = count 5 total c = least 5 total d = most 5 total e = first \"x\""
        + " total f = last \"y\" total g = least \"z\" total h = most \"w\"";
    pages("nothing taken in", mill, totals + " band summary line a b c d \"(\" e f g h \")\" end", "0000()|||");
    for (int total = 0; total < 8; total++) {
      CHECKS.same("promise 22: no rows, " + total, mill.mill.total(total), 0);
    }
    mill.cells(1, "t");
    pages("nothing taken in", mill, totals + " band before n line a b c d \"(\" e f g h \")\" end band after n line a b c d \"(\""
        + " e f g h \")\" end", "0000()|5155(xyzw)||");
    for (int total = 0; total < 8; total++) {
      CHECKS.same("promise 22: one row, " + total, mill.mill.total(total), new int[] {5, 1, 5, 5, 1, 1, 1, 1}[total]);
    }
  }

  /** "sum adds it", and wraps around. */
  private static void sumsWrapAround() {
    Mill mill = new Mill().columns("n").cells(Long.MAX_VALUE, 1, -1);
    mill.compile("total a = sum n total b = sum -n total c = sum n * 2 total d = sum n + 1");
    mill.mill.run();
    CHECKS.same("promise 22: the greatest, 1, -1", mill.mill.total(0), Long.MAX_VALUE);
    CHECKS.same("promise 22: negative", mill.mill.total(1), -Long.MAX_VALUE);
    CHECKS.same("promise 22: twice", mill.mill.total(2), -2);
    CHECKS.same("promise 22: with 1", mill.mill.total(3), Long.MIN_VALUE + 2);
    Mill two = new Mill().columns("n").cells(Long.MAX_VALUE, 1);
    two.compile("total a = sum n");
    two.mill.run();
    CHECKS.same("promise 22: the greatest and 1", two.mill.total(0), Long.MIN_VALUE);
    Mill least = new Mill().columns("n").cells(Long.MIN_VALUE, -1);
    least.compile("total a = sum n");
    least.mill.run();
    CHECKS.same("promise 22: the least and -1", least.mill.total(0), Long.MAX_VALUE);
  }

  private static void totals(Mill mill, long... due) {
    mill.compile("total a = least n total b = most n total c = first n total d = last n total e = sum n");
    mill.mill.run();
    for (int total = 0; total < due.length; total++) {
      CHECKS.same("promise 22: total " + total, mill.mill.total(total), due[total]);
    }
  }

  /** "least and most keep the least and the greatest one". */
  private static void leastAndMost() {
    totals(new Mill().columns("n").cells(3), 3, 3);
    totals(new Mill().columns("n").cells(-3), -3, -3);
    totals(new Mill().columns("n").cells(0), 0, 0);
    totals(new Mill().columns("n").cells(5, 3, 4), 3, 5);
    totals(new Mill().columns("n").cells(-5, -3, -4), -5, -3);
    totals(new Mill().columns("n").cells(Long.MAX_VALUE), Long.MAX_VALUE, Long.MAX_VALUE);
    totals(new Mill().columns("n").cells(Long.MIN_VALUE), Long.MIN_VALUE, Long.MIN_VALUE);
    totals(new Mill().columns("n").cells(Long.MAX_VALUE, Long.MIN_VALUE), Long.MIN_VALUE, Long.MAX_VALUE);
    totals(new Mill().columns("n").cells(Long.MIN_VALUE, Long.MAX_VALUE), Long.MIN_VALUE, Long.MAX_VALUE);
  }

  /** "first keeps the first one since it began anew, last the latest one." */
  private static void firstAndLast() {
    totals(new Mill().columns("n").cells(7), 7, 7, 7, 7, 7);
    totals(new Mill().columns("n").cells(0, 7, 5), 0, 7, 0, 5, 12);
    totals(new Mill().columns("n").cells(7, 5, 0), 0, 7, 7, 0, 12);
    totals(new Mill().columns("n").cells(-7, 0), -7, 0, -7, 0, -7);
  }

  /** "count is a number; its expression is reckoned, but does not matter." */
  private static void counts() {
    Mill mill = new Mill().columns("n", "t$").cells(0, "", 0, "", -5, "x");
    mill.compile("total a = count n total b = count t total c = count 0 total d = count \"abc\"");
    mill.mill.run();
    for (int total = 0; total < 4; total++) {
      CHECKS.same("promise 22: count " + total, mill.mill.total(total), 3);
    }
    mill.compile("total a = count 1 / n");
    CHECKS.same("promise 16: it is reckoned", mill.mill.run(), 2);
    CHECKS.same("promise 22: it has taken nothing in", mill.mill.total(0), 0);
  }

  /** "(texts by their bytes)". */
  private static void textsOfTotals() {
    String totals = "total a = least t total b = most t total c = first t total d = last t";
    String[][] cells = {{""}, {"", "a"}, {"a", ""}, {"ab", "a", "abc"}, {"~", "~~~~~~~~", " "}, {"a", "A", "b"}};
    String[] due = {"...", ".a..a", ".a.a.", "a.abc.ab.abc", " .~~~~~~~~.~. ", "A.b.a.b"};
    for (int i = 0; i < cells.length; i++) {
      Mill mill = new Mill().columns("t$").cells((Object[]) cells[i]);
      pages("texts", mill, "page 40 4 " + totals + " band summary line a \".\" b \".\" c \".\" d end", due[i] + "|||");
      String[] texts = due[i].split("\\.", -1);
      for (int total = 0; total < 4; total++) {
        CHECKS.same("promise 22: length " + total, mill.mill.total(total), texts[total].length());
      }
    }
  }

  private static void sixtyBytes() {
    Mill mill = new Mill().columns("t$").cells("abcdefgh", "ABCDEFGH");
    String eight = "t & t & t & t & t & t & t & t";
    mill.compile("page 60 4 let x = " + eight + " total a = least x total b = last x & \"more\" total c = most x"
        + " band row line x end band summary line c line b end");
    CHECKS.same("promise 16: sixty bytes", mill.mill.run(), 0);
    for (int total = 0; total < 3; total++) {
      CHECKS.same("promise 22: sixty bytes", mill.mill.total(total), 60);
    }
    String small = "abcdefgh".repeat(8).substring(0, 60);
    String due = small + "|" + small.toUpperCase() + "|" + small + "|" + small.toUpperCase();
    CHECKS.same("promise 19: sixty bytes", mill.pagesLike(due), due);
  }

  /** "The totals per groups that break begin anew." */
  private static void totalsPerGroup() {
    Mill mill = new Mill().columns("a", "b", "n").cells(1, 1, 5, 1, 1, 6, 1, 2, 7, 2, 2, 8);
    pages("per group", mill, "page 20 4 group a group b total r = sum n total s = sum n per a total t = sum n per b"
        + " band row line r \" \" s \" \" t end", "5 5 5|11 11 11|18 18 7|26 8 8");
    pages("per group", mill, "page 20 4 group a group b total r = first n per a total s = least n per b total t = count 1 per b"
        + " band row line r \" \" s \" \" t end", "5 5 1|5 5 2|5 7 1|8 8 1");
  }

  /** "A page begins with pageno (1, 2, ..) and empty lines; totals per page begin anew; then the band top". */
  private static void totalsPerPage() {
    Mill mill = new Mill().columns("n").cells(5, 6, 7, 8, 9);
    pages("per page", mill, "page 10 4 total s = sum n per page total f = first n per page band top line s f end"
        + " band bottom line s f end band row line n end", "00|5|6|185 // 00|7|8|178 // 00|9||00");
    CHECKS.same("promise 22: per page", mill.mill.total(0), 0);
  }

  private static void division(String program, String due, int... told) {
    Mill mill = new Mill().columns("n").cells(5, 0, 7);
    pages("error 2", mill, "page 10 4 " + program, due);
    told(program, mill, told);
  }

  /** "error 2, a / or % by 0 (in a let ..)": "the row was taken". */
  private static void divisionsInLets() {
    division("let x = 10 / n band row line x end", "2|||", 1, 1, 2, 1, 2);
    division("let x = 10 % n band row line n end", "5|||", 1, 1, 2, 1, 2);
    division("let x = 1 / 0 band title line 1 end", "1|||", 1, 1, 1, 1, 2);
    division("group n let x = 1 / n band after n line n end band before n line \"b\" end", "b|5||", 1, 1, 2, 2, 2);
    division("let x = 1 / (n - 7) band row line n end band summary line \"s\" end", "5|0||", 1, 1, 3, 2, 2);
  }

  private static void divisionsInTotals() {
    division("total s = sum 10 / n band row line s end", "2|||", 1, 1, 2, 1, 2);
    division("group n total s = least 1 % n per n band before n line \"b\" end band row line s end", "b|1|b|", 1, 1, 2, 3, 2);
    Mill mill = new Mill().columns("n").cells(5, 0, 7);
    mill.compile("total a = sum 1 total b = sum 1 / n total c = sum 1");
    mill.mill.run();
    CHECKS.same("promise 22: ahead of the error", mill.mill.total(0), 2);
    CHECKS.same("promise 22: with the error", mill.mill.total(1), 0);
    CHECKS.same("promise 22: behind the error", mill.mill.total(2), 1);
  }

  /** "pieces ahead of the error are printed, but the line of a piece with an error is not counted as printed." */
  private static void divisionsInPieces() {
    division("band title line 1 2 3 / 0 4 line 5 end band row line n end", "12|||", 1, 1, 0, 0, 2);
    division("band row line n 10 / n : 4 \"x\" end", "5   2x|0||", 1, 1, 2, 1, 2);
    division("band title line 1 / 0 end", "|||", 1, 1, 0, 0, 2);
    division("band title line at 3 \"a\" at 1 \"b\" at 5 1 % 0 end", "b a|||", 1, 1, 0, 0, 2);
    division("band title line 1 line 2 line 3 / 0 end", "1|2||", 1, 1, 0, 2, 2);
    division("band summary line 1 / 0 end band row line n end", "5|0|7|", 1, 1, 3, 3, 2);
  }

  private static void divisionsInConditions() {
    division("band title line 1 if 1 / 0 then line 2 else line 3 end line 4 end", "1|||", 1, 1, 0, 1, 2);
    division("band title line 1 keep line 2 if 1 / 0 then line 3 end end line 4 end", "1|||", 1, 1, 0, 1, 2);
    division("band row if 1 / n then end line n end", "5|||", 1, 1, 2, 1, 2);
    division("band row keep keep line n if 1 / n then end end end end", "5|||", 1, 1, 2, 1, 2);
  }

  /** "The break" of a page can stop the run, too: in the bands bottom and top. */
  private static void divisionsInBands() {
    division("band top line 1 / 0 end band title line 1 end", "|||", 1, 1, 0, 0, 2);
    division("band top line \"t\" line 1 / (pageno - 2) end band title line 1 eject line 2 end", "t|-1|1| // t|||", 2, 2, 0, 4, 2);
    division("band bottom line \"b\" 1 / 0 end band title line 1 end", "1|||b", 1, 1, 3, 1, 2);
    division("band bottom line \"b\" line 1 / (pageno - 2) end band title line 1 eject line 2 end", "1||b|-1 // 2||b|", 2, 2, 3, 5, 2);
    division("band bottom line \"b\" 1 / (pageno - 1) end band title line 1 eject line 2 end", "1|||b", 1, 1, 0, 1, 2);
    division("group n band after n line n 5 / n end", "51|0||", 1, 1, 2, 1, 2);
    division("group n band before n line n 5 / n end", "51|0||", 1, 1, 2, 1, 2);
  }

  private static void divisionsThatAreNotReckoned() {
    Mill mill = new Mill().columns("n").cells(0);
    pages("not reckoned", mill, "page 10 4 band row if 0 then line 1 / 0 else line 1 end if 1 then line 2 else line 1 / 0 end"
        + " keep if n then if 1 / n then end end end line n and 1 / n end", "1|2|0|");
    told("not reckoned", mill, 1, 1, 1, 3, 0);
  }

  /** "in the first one pages is 0, in the second one it is the number of pages that the first one had." */
  private static void pagesOfTheFirstRun() {
    Mill mill = new Mill();
    pages("pages", mill, "page 10 4 band title line pages if pages = 0 then eject line 1 eject line 2 end end", "3|||");
    told("pages", mill, 3, 1, 0, 1, 0);
    mill.mill.run();
    CHECKS.same("promise 19: another run", mill.pagesLike("3|||"), "3|||");
    told("another run", mill, 3, 1, 0, 1, 0);
    pages("one page", mill, "page 10 4 band bottom line pageno \"/\" pages end", "|||1/1");
    pages("more pages", mill, "page 10 4 band bottom line pageno \"/\" pages end band title if pages then eject line eject end line 7 end",
        "|||1/1 // 7|||2/1");
    told("more pages", mill, 1, 2, 0, 4, 0);
  }

  /** "If the first one stops with an error, there is no second one." */
  private static void errorOfTheFirstRun() {
    Mill mill = new Mill();
    pages("the first run", mill, "page 10 4 band title line pages line 1 / pages end", "0|||");
    told("the first run", mill, 1, 1, 0, 1, 2);
    CHECKS.same("promise 16: the first run", mill.mill.run(), 2);
  }

  private static void errorOfTheSecondRun() {
    Mill mill = new Mill();
    pages("the second run", mill, "page 10 4 band title line pages eject line 1 / (pages - 2) end", "2||| // |||");
    told("the second run", mill, 2, 2, 0, 1, 2);
    CHECKS.same("promise 16: the second run", mill.mill.run(), 2);
  }

  /** "Returns this; 0 if run() was never done with this program." */
  private static void toldOfNoRun() {
    Mill mill = new Mill();
    told("a new object", mill, 0, 0, 0, 0, 0);
    mill.compile("band title line 1 end");
    told("not run", mill, 0, 0, 0, 0, 0);
    mill.mill.run();
    told("run", mill, 1, 1, 0, 1, 0);
    mill.compile("band title line 1 / 0 end");
    told("not run with this one", mill, 0, 0, 0, 0, 0);
    mill.mill.run();
    told("run with this one", mill, 1, 1, 0, 0, 2);
    mill.compile("band title");
    told("no program", mill, 0, 0, 0, 0, 0);
  }

  private static void toldOfALaterRun() {
    Mill mill = new Mill().columns("n").cells(1, 2, 3, 4, 5);
    mill.compile("page 10 4 band row line n end");
    mill.mill.run();
    told("five rows", mill, 2, 2, 5, 5, 0);
    mill.mill.clear();
    mill.mill.run();
    told("no rows", mill, 1, 1, 0, 0, 0);
    mill.cells(6);
    told("not run with it yet", mill, 1, 1, 0, 0, 0);
    mill.mill.run();
    told("one row", mill, 1, 1, 1, 1, 0);
  }

  /** "a place in the order in which rows were taken in the latest run, from 0". */
  private static void takenRows() {
    Mill mill = new Mill().columns("n").cells(3, 1, 2);
    mill.compile("order n band row if n = 2 then line 1 / (pages * 0) end end");
    mill.mill.run();
    CHECKS.same("promise 21: place 0", mill.mill.taken(0), 1);
    CHECKS.same("promise 21: place 1, with the error", mill.mill.taken(1), 2);
    CHECKS.fails("promise 21: place 2", IndexOutOfBoundsException.class, () -> mill.mill.taken(2));
    CHECKS.fails("promise 21: place -1", IndexOutOfBoundsException.class, () -> mill.mill.taken(-1));
  }

  /** "Returns its value at the end of the latest run; the number of bytes, if it is a text." */
  private static void totalsAtTheEnd() {
    Mill mill = new Mill().columns("n", "t$").cells(1, "a", 2, "bcdefghi");
    mill.compile("page 10 4 group n total a = sum n per n total b = last t total c = first t per page total d = count 1"
        + " total e = least \"\" total f = sum 0 total g = most n total h = last t & t & t & t & t & t & t & t"
        + " band summary eject line end");
    mill.mill.run();
    long[] due = {2, 8, 1, 2, 0, 0, 2, 60};
    for (int total = 0; total < 8; total++) {
      CHECKS.same("promise 22: total " + total, mill.mill.total(total), due[total]);
    }
    for (int total : new int[] {-1, 8, Integer.MIN_VALUE, Integer.MAX_VALUE}) {
      CHECKS.fails("promise 22: total " + total, IndexOutOfBoundsException.class, () -> mill.mill.total(total));
    }
    mill.compile("page 10 4 total a = first t per page band row line eject end");
    mill.mill.run();
    CHECKS.same("promise 22: a page without rows", mill.mill.total(0), 0);
  }

  /** "Returns how often it broke in the latest run (counted in step 1)." */
  private static void brokenGroups() {
    Mill mill = new Mill().columns("a", "b", "c").cells(1, 1, 1, 1, 1, 2, 1, 2, 2, 2, 2, 2, 2, 2, 2);
    mill.compile("group a group b group c");
    mill.mill.run();
    CHECKS.same("promise 23: a", mill.mill.broke(0), 2);
    CHECKS.same("promise 23: b", mill.mill.broke(1), 3);
    CHECKS.same("promise 23: c", mill.mill.broke(2), 4);
    for (int group : new int[] {-1, 3, Integer.MIN_VALUE, Integer.MAX_VALUE}) {
      CHECKS.fails("promise 23: group " + group, IndexOutOfBoundsException.class, () -> mill.mill.broke(group));
    }
    mill.mill.run();
    CHECKS.same("promise 23: another run", mill.mill.broke(2), 4);
    mill.compile("group a let x = 1 / (a - 2)");
    mill.mill.run();
    CHECKS.same("promise 23: with the row of the error", mill.mill.broke(0), 2);
    CHECKS.fails("promise 23: fewer groups", IndexOutOfBoundsException.class, () -> mill.mill.broke(1));
  }

  /** "The pages and totals of the latest one can be asked for, as long as the program is there". */
  private static void asLongAsTheProgramIsThere() {
    Mill mill = new Mill().columns("n").cells(4, 9);
    mill.compile("page 10 4 group n total s = sum n band row line n end");
    mill.mill.run();
    long before = mill.mill.digest();
    mill.value("n + 1", 0);
    CHECKS.same("promise 25: behind evaluate", mill.mill.digest(), before);
    mill.mill.clear();
    mill.tape("zz");
    CHECKS.same("promise 19: behind clear", mill.pagesLike("4|9||"), "4|9||");
    CHECKS.same("promise 22: behind clear", mill.mill.total(0), 13);
    CHECKS.same("promise 23: behind clear", mill.mill.broke(0), 2);
    CHECKS.same("promise 21: behind clear", mill.mill.taken(1), 1);
    told("behind clear", mill, 1, 1, 2, 2, 0);
    mill.mill.column(false);
    told("behind column", mill, 0, 0, 0, 0, 0);
    CHECKS.fails("promise 22: behind column", IndexOutOfBoundsException.class, () -> mill.mill.total(0));
  }
}
