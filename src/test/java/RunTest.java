/** Promises 16 to 25: the run, its bands, groups, totals and errors, and what is told of it. */
public final class RunTest {
  private static final Checks CHECKS = new Checks();

  public static void main(String[] args) {
    runs();
    told();
    theProgramIsThere();
    sorting();
    textOrders();
    bands();
    groups();
    lets();
    totals();
    totalsPerPage();
    totalKinds();
    totalsOfTexts();
    totalTells();
    breaks();
    divisions();
    divisionsInRows();
    pagesOfTheFirstRun();
    sizes();
    bytes();
    sums();
    takenRows();
    filling();
    digests();
    CHECKS.end();
  }

  /** Runs a program and holds its pages against the due ones. */
  private static void pages(String what, Mill mill, String program, String due) {
    String error = mill.error(program);
    String got = "error " + error;
    if (error.equals("0@-1")) {
      mill.mill.run();
      got = mill.pagesLike(due);
    }
    CHECKS.same(what + ": " + program, got, due);
  }

  private static void runs() {
    Mill mill = new Mill();
    CHECKS.fails("promise 16: no program", IllegalStateException.class, mill.mill::run);
    mill.compile("");
    CHECKS.same("promise 16: an empty program", mill.mill.run(), 0);
    CHECKS.same("promise 17: one page", mill.mill.told(1), 1);
    for (int i = 2; i <= 4; i++) {
      CHECKS.same("promise 16: run " + i, mill.mill.run(), 0);
    }
    CHECKS.fails("promise 16: a fifth run", IllegalStateException.class, mill.mill::run);
    CHECKS.same("promise 17: told behind it", mill.mill.told(1), 1);
    mill.compile("band title line 1 / 0 end");
    for (int i = 1; i <= 4; i++) {
      CHECKS.same("promise 16: run with an error " + i, mill.mill.run(), 2);
    }
    CHECKS.fails("promise 16: a fifth run with an error", IllegalStateException.class, mill.mill::run);
    mill.columns("n").cells(0);
    mill.compile("band row line 1 / n end");
    CHECKS.same("promise 16: an error", mill.mill.run(), 2);
    mill.mill.clear();
    mill.cells(1);
    CHECKS.same("promise 16: none any more", mill.mill.run(), 0);
    CHECKS.same("promise 17: none any more", mill.mill.told(4), 0);
    mill.compile("let x = ");
    CHECKS.fails("promise 16: no program any more", IllegalStateException.class, mill.mill::run);
  }

  private static void told() {
    Mill mill = new Mill().columns("n").cells(1, 2, 3);
    mill.compile("page 10 4 band top line \"t\" end band bottom line \"b\" end band row line n skip 1 end");
    for (int what = 0; what < 5; what++) {
      CHECKS.same("promise 17: no run " + what, mill.mill.told(what), 0);
    }
    mill.mill.run();
    int[] due = {3, 3, 3, 9, 0};
    for (int what = 0; what < 5; what++) {
      CHECKS.same("promise 17: told " + what, mill.mill.told(what), due[what]);
    }
    CHECKS.fails("promise 17: -1", IndexOutOfBoundsException.class, () -> mill.mill.told(-1));
    CHECKS.fails("promise 17: 5", IndexOutOfBoundsException.class, () -> mill.mill.told(5));
    mill.compile("band title if pages = 0 then line 1 eject line 2 end end");
    mill.mill.run();
    CHECKS.same("promise 17: pages of the first run", mill.mill.told(0), 2);
    CHECKS.same("promise 17: pages of the second run", mill.mill.told(1), 1);
    CHECKS.same("promise 17: lines of the second run", mill.mill.told(3), 0);
    mill.compile("band row line n / (n - 2) end");
    mill.mill.run();
    int[] stopped = {1, 1, 2, 1, 2};
    for (int what = 0; what < 5; what++) {
      CHECKS.same("promise 17: an error " + what, mill.mill.told(what), stopped[what]);
    }
    mill.compile("band row line end");
    for (int what = 0; what < 5; what++) {
      CHECKS.same("promise 17: a new program " + what, mill.mill.told(what), 0);
    }
  }

  private static void theProgramIsThere() {
    Mill mill = new Mill().columns("n").cells(1, 2);
    mill.compile("page 10 4 group n total s = sum n band row line n end");
    mill.mill.run();
    mill.mill.clear();
    mill.cells(7);
    mill.value("n + 1", 0);
    CHECKS.same("promise 19: it stays", mill.page(1), "1|2||");
    CHECKS.same("promise 17: it stays", mill.mill.told(2), 2);
    CHECKS.same("promise 21: it stays", mill.mill.taken(1), 1);
    CHECKS.same("promise 22: it stays", mill.mill.total(0), 3);
    CHECKS.same("promise 23: it stays", mill.mill.broke(0), 2);
    mill.mill.run();
    CHECKS.same("promise 19: the new rows", mill.page(1), "7|||");
    mill.compile("page 10 4 group n total s = sum n band row line n end");
    CHECKS.fails("promise 19: not run", IndexOutOfBoundsException.class, () -> mill.mill.byteAt(1, 1, 1));
    CHECKS.fails("promise 20: not run", IndexOutOfBoundsException.class, () -> mill.mill.lineSum(1, 1));
    CHECKS.fails("promise 21: not run", IndexOutOfBoundsException.class, () -> mill.mill.taken(0));
    CHECKS.fails("promise 22: not run", IndexOutOfBoundsException.class, () -> mill.mill.total(0));
    CHECKS.fails("promise 23: not run", IndexOutOfBoundsException.class, () -> mill.mill.broke(0));
    CHECKS.same("promise 24: not run", "" + mill.mill.filled(), "0.0");
  }

  private static String order(Mill mill, String program) {
    mill.compile(program);
    mill.mill.run();
    StringBuilder rows = new StringBuilder();
    for (int i = 0; i < mill.mill.told(2); i++) {
      rows.append(i == 0 ? "" : " ").append(mill.mill.taken(i));
    }
    return rows.toString();
  }

  private static void sorting() {
    Mill mill = new Mill().columns("a", "b").cells(2, 1, 1, 2, 2, 3, 1, 1, -5, 2, Long.MIN_VALUE, 0, Long.MAX_VALUE, 0);
    CHECKS.same("promise 21: no order", order(mill, ""), "0 1 2 3 4 5 6");
    CHECKS.same("promise 21: a", order(mill, "order a"), "5 4 1 3 0 2 6");
    CHECKS.same("promise 21: down a", order(mill, "order down a"), "6 0 2 1 3 4 5");
    CHECKS.same("promise 21: a, b", order(mill, "order a order b"), "5 4 3 1 0 2 6");
    CHECKS.same("promise 21: a, down b", order(mill, "order a order down b"), "5 4 1 3 2 0 6");
    CHECKS.same("promise 21: b, down a", order(mill, "order b order down a"), "6 5 0 3 1 4 2");
    CHECKS.same("promise 21: b", order(mill, "order b order b order down b"), "5 6 0 3 1 4 2");
    Mill many = new Mill().columns("k");
    for (int row = 0; row < 40; row++) {
      many.cells(row * 7 % 4);
    }
    CHECKS.same("promise 21: 40 rows", order(many, "order down k").substring(0, 14), "1 5 9 13 17 21");
    CHECKS.same("promise 17: 40 rows", many.mill.told(2), 40);
  }

  private static void textOrders() {
    Mill mill = new Mill().columns("t$").cells("b", "ab", "a", "", "B", "~~~~~~~~", "abcdefgh", 0x6100000000000062L, " ");
    CHECKS.same("promise 21: texts", order(mill, "order t"), "3 8 4 2 1 7 6 0 5");
    CHECKS.same("promise 21: texts down", order(mill, "order down t"), "5 0 6 1 7 2 4 8 3");
  }

  /** Every band prints a letter and the values that it sees. */
  private static void bands() {
    Mill mill = new Mill().columns("n", "t$").cells(3, "x", 4, "y");
    pages("promise 16", mill, "page 20 10 let d = n * 2 let u = upper(t) total s = sum n total l = last t"
        + " band summary line \"S\" n t d u s l rowno end band row line \"R\" n t d u s l rowno end"
        + " band title line \"T\" n t d u s l rowno end band top line \"P\" n t d u s l rowno end"
        + " band bottom line \"B\" n t d u s l rowno end",
        "P0000|T0000|R3x6X3x1|R4y8Y7y2|S4y8Y7y2|||||B4y8Y7y2");
    pages("promise 16", new Mill().columns("n"), "page 10 4 group n band summary line \"S\" n end"
        + " band before n line \"b\" end band after n line \"a\" end band row line \"r\" end band title line \"T\" end",
        "T|S0||");
    CHECKS.same("promise 17: no rows", mill.mill.told(2), 2);
  }

  private static void groups() {
    Mill mill = new Mill().columns("a", "b", "n").cells(1, 1, 1, 1, 1, 2, 1, 2, 3, 2, 2, 4, 1, 2, 5);
    pages("promise 16", mill, "page 10 40 group a group b total s = sum n per a total q = sum n per b"
        + " band before a line \"A\" a b n \"/\" s \"/\" q end band before b line \"B\" a b n \"/\" s \"/\" q end"
        + " band row line \"r\" s \"/\" q end"
        + " band after a line \"-A\" a b n \"/\" s \"/\" q end band after b line \"-B\" a b n \"/\" s \"/\" q end",
        "A111/0/0|B111/0/0|r1/1|r3/3|-B112/3/3|B123/3/0|r6/3|-B123/6/3|-A123/6/3"
        + "|A224/0/0|B224/0/0|r4/4|-B224/4/4|-A224/4/4|A125/0/0|B125/0/0|r5/5|-B125/5/5|-A125/5/5"
        + "|||||||||||||||||||||");
    CHECKS.same("promise 23: a", mill.mill.broke(0), 3);
    CHECKS.same("promise 23: b", mill.mill.broke(1), 4);
    pages("promise 16", new Mill().columns("n").cells(5), "page 10 4 group n band after n line \"-\" n end"
        + " band summary line \"S\" end", "-5|S||");
    Mill three = new Mill().columns("x", "y", "z$").cells(1, 1, "p", 1, 1, "q", 2, 1, "q");
    pages("promise 16", three, "page 20 20 group z group x group y band before z line \"Z\" end"
        + " band after y line \"y\" end band after x line \"x\" end band after z line \"z\" end"
        + " band before y line \"Y\" end band before x line \"X\" end",
        "Z|X|Y|y|x|z|Z|X|Y|y|x|X|Y|y|x|z||||");
    CHECKS.same("promise 23: z", three.mill.broke(0), 2);
    CHECKS.same("promise 23: x", three.mill.broke(1), 3);
    CHECKS.same("promise 23: y", three.mill.broke(2), 3);
  }

  private static void lets() {
    Mill mill = new Mill().columns("n", "t$").cells(3, "x", 5, "yz");
    pages("promise 16", mill, "page 20 4 let a = n + rowno let b = a * a let c = t & b & rowno"
        + " band title line a \",\" b \",\" c \".\" end band row line a \",\" b \",\" c end",
        "0,0,.|4,16,x161|7,49,yz492|");
  }

  private static void totals() {
    Mill mill = new Mill().columns("k", "n").cells(1, 5, 1, 2, 2, 9, 2, 4, 2, 6);
    pages("promise 16", mill, "page 30 8 group k total a = sum n total b = sum n per k total c = sum n per page"
        + " total d = count n per k total e = most n per page band bottom line \"B\" a \" \" b \" \" c \" \" d \" \" e end"
        + " band row need 3 line a \" \" b \" \" c \" \" d \" \" e skip 1 end",
        "5 5 5 1 5||7 7 7 2 5||16 9 16 1 9|||B20 13 20 2 9 // 20 13 0 2 0||26 19 6 3 6|||||B26 19 6 3 6");
  }

  private static void totalsPerPage() {
    Mill mill = new Mill().columns("t$").cells("b", "a", "d", "c", "e", "d");
    pages("promise 16", mill, "page 20 4 total a = least t per page total b = first t per page total c = count t per page"
        + " band bottom line a b c end band row line a b c end",
        "bb1|ab2|ab3|ab4 // 0|ee1|de2|de2");
  }

  private static void totalKinds() {
    Mill mill = new Mill().columns("n").cells(-3, Long.MIN_VALUE, 4, Long.MIN_VALUE, 4);
    mill.compile("total a = sum n total b = count n total c = least n total d = most n total e = first n"
        + " total f = last n total g = count \"x\" total h = sum 1");
    mill.mill.run();
    long[] due = {5, 5, Long.MIN_VALUE, 4, -3, 4, 5, 5};
    for (int i = 0; i < due.length; i++) {
      CHECKS.same("promise 22: total " + i, mill.mill.total(i), due[i]);
    }
    Mill low = new Mill().columns("n").cells(-3, -5, -4);
    low.compile("total a = least n total b = most n total c = first n total d = last n");
    low.mill.run();
    long[] dueLow = {-5, -3, -3, -4};
    for (int i = 0; i < dueLow.length; i++) {
      CHECKS.same("promise 22: below 0, total " + i, low.mill.total(i), dueLow[i]);
    }
    Mill high = new Mill().columns("n").cells(7, 5, 9);
    high.compile("total a = least n total b = first 0 * n total c = first n");
    high.mill.run();
    CHECKS.same("promise 22: least above 0", high.mill.total(0), 5);
    CHECKS.same("promise 22: a first 0", high.mill.total(1), 0);
    CHECKS.same("promise 22: first", high.mill.total(2), 7);
  }

  private static void totalsOfTexts() {
    Mill mill = new Mill().columns("k", "t$").cells(1, "mm", 1, "m", 1, "", 1, "z", 2, "q", 2, "qqq");
    pages("promise 16", mill, "page 30 10 group k total a = least t per k total b = most t per k"
        + " total c = first t total d = last t & 1 band before k line \"<\" a b \">\" end"
        + " band row line a \",\" b \",\" c \",\" d end",
        "<>|mm,mm,mm,mm1|m,mm,mm,m1|,mm,mm,1|,z,mm,z1|<>|q,q,mm,q1|q,qqq,mm,qqq1||");
    CHECKS.same("promise 22: a text", mill.mill.total(0), 1);
    CHECKS.same("promise 22: a text", mill.mill.total(1), 3);
    CHECKS.same("promise 22: a text", mill.mill.total(3), 4);
  }

  private static void totalTells() {
    Mill mill = new Mill().columns("n", "t$");
    CHECKS.fails("promise 22: no program", IndexOutOfBoundsException.class, () -> mill.mill.total(0));
    mill.compile("total a = most n total b = last t total c = count t");
    CHECKS.fails("promise 22: no run", IndexOutOfBoundsException.class, () -> mill.mill.total(0));
    mill.mill.run();
    for (int i = 0; i < 3; i++) {
      CHECKS.same("promise 22: no rows, total " + i, mill.mill.total(i), 0);
    }
    CHECKS.fails("promise 22: -1", IndexOutOfBoundsException.class, () -> mill.mill.total(-1));
    CHECKS.fails("promise 22: 3", IndexOutOfBoundsException.class, () -> mill.mill.total(3));
    mill.cells(3, "ab", 4, "abc");
    mill.mill.run();
    CHECKS.same("promise 22: a number", mill.mill.total(0), 4);
    CHECKS.same("promise 22: a length", mill.mill.total(1), 3);
    mill.compile("total a = sum 10 / (n - 4) total b = count n");
    mill.mill.run();
    CHECKS.same("promise 22: with an error", mill.mill.total(0), -10);
    CHECKS.same("promise 22: with an error", mill.mill.total(1), 1);
  }

  private static void breaks() {
    Mill mill = new Mill().columns("n", "t$").cells(1, "a", 1, "b", 2, "b", 2, "b");
    CHECKS.fails("promise 23: no program", IndexOutOfBoundsException.class, () -> mill.mill.broke(0));
    mill.compile("group t group n");
    CHECKS.fails("promise 23: no run", IndexOutOfBoundsException.class, () -> mill.mill.broke(0));
    mill.mill.run();
    CHECKS.same("promise 23: t", mill.mill.broke(0), 2);
    CHECKS.same("promise 23: n", mill.mill.broke(1), 3);
    CHECKS.fails("promise 23: -1", IndexOutOfBoundsException.class, () -> mill.mill.broke(-1));
    CHECKS.fails("promise 23: 2", IndexOutOfBoundsException.class, () -> mill.mill.broke(2));
    mill.compile("group n band after n line 1 / 0 end");
    mill.mill.run();
    CHECKS.same("promise 23: counted ahead of the bands", mill.mill.broke(0), 2);
    CHECKS.same("promise 17: the row is not taken", mill.mill.told(2), 2);
    mill.mill.clear();
    mill.mill.run();
    CHECKS.same("promise 23: no rows", mill.mill.broke(0), 0);
  }

  private static void division(String program, int taken, int lines, String due) {
    Mill mill = new Mill().columns("n").cells(5, 0, 7);
    pages("promise 16", mill, "page 10 4 " + program, due);
    CHECKS.same("promise 17: error of " + program, mill.mill.told(4), 2);
    CHECKS.same("promise 17: rows of " + program, mill.mill.told(2), taken);
    CHECKS.same("promise 17: lines of " + program, mill.mill.told(3), lines);
  }

  private static void divisions() {
    division("band title line \"a\" \"b\" 1 / 0 \"c\" line \"d\" end band bottom line \"z\" end", 0, 0, "ab|||");
    division("band top line \"a\" 1 % 0 end band title line \"t\" end", 0, 0, "a|||");
    division("band title if 1 / 0 then line \"t\" else line \"e\" end end", 0, 0, "|||");
    division("band title line \"x\" keep line \"t\" if 1 / 0 then end end end", 0, 1, "x|||");
    division("band title line \"x\" keep line \"t\" line 1 / 0 end end", 0, 2, "x|t||");
    division("band bottom line \"b\" 1 / 0 end band title line \"t\" end", 3, 1, "t|||b");
    division("band bottom line 1 / 0 end band title line \"t\" line \"u\" line \"v\" line \"w\" end", 0, 3, "t|u|v|");
    division("band title if 0 then line 1 / 0 else line \"e\" end line 1 / 0 end", 0, 1, "e|||");
  }

  private static void divisionsInRows() {
    division("let x = 1 / n band row line \"r\" x end", 2, 1, "r0|||");
    division("let x = n let y = 1 / n band row line x end band bottom line x end", 2, 1, "5|||");
    division("total s = sum 9 / n band row line s end", 2, 1, "1|||");
    division("group n total s = sum 9 / n band before n line \"<\" n s end band row line s end", 2, 3, "<50|1|<01|");
    division("total c = count 9 / n band row line c end band bottom line \"b\" end", 2, 1, "1|||");
    division("group n band after n line n / (n - 5) end", 1, 0, "|||");
    division("group n band after n line n / (n - 7) end", 3, 2, "-2|0||");
    division("band summary line 1 line 2 / 0 end", 3, 1, "1|||");
    Mill mill = new Mill().columns("n").cells(5, 0, 7);
    mill.compile("let x = n let y = 1 / n let z = n total s = sum x band row line x y z end");
    mill.mill.run();
    CHECKS.same("promise 21: the row was taken", mill.mill.taken(1), 1);
    CHECKS.same("promise 22: its totals are not reckoned", mill.mill.total(0), 5);
  }

  private static void pagesOfTheFirstRun() {
    Mill mill = new Mill().columns("n").cells(1, 2, 3);
    pages("promise 16", mill, "page 12 4 band bottom line pageno \" of \" pages end band row line n eject end",
        "1|||1 of 4 // 2|||2 of 4 // 3|||3 of 4 // |||4 of 4");
    mill.compile("page 10 4 band row line n if pages then line 1 / 0 end end");
    CHECKS.same("promise 16: an error in the second run", mill.mill.run(), 2);
    CHECKS.same("promise 17: pages of the first run", mill.mill.told(0), 1);
    CHECKS.same("promise 17: rows of the second run", mill.mill.told(2), 1);
    CHECKS.same("promise 17: lines of the second run", mill.mill.told(3), 1);
    mill.compile("page 10 4 band row if pages then else line 1 / 0 end end");
    CHECKS.same("promise 16: an error in the first run", mill.mill.run(), 2);
    CHECKS.same("promise 17: rows of the first run", mill.mill.told(2), 1);
  }

  private static void sizes() {
    Mill mill = new Mill();
    CHECKS.fails("promise 18: no program", IllegalStateException.class, () -> mill.mill.size(true));
    mill.compile("");
    CHECKS.same("promise 18: width", mill.mill.size(false), 40);
    CHECKS.same("promise 18: height", mill.mill.size(true), 20);
    mill.compile("page 10 30");
    CHECKS.same("promise 18: width", mill.mill.size(false), 10);
    CHECKS.same("promise 18: height", mill.mill.size(true), 30);
    mill.compile("page 10 3");
    CHECKS.fails("promise 18: no program", IllegalStateException.class, () -> mill.mill.size(false));
    mill.compile("let x = 1");
    CHECKS.same("promise 18: width again", mill.mill.size(false), 40);
  }

  private static void bytes() {
    Mill mill = new Mill();
    mill.compile("page 11 4 band title line \"abc\" at 11 \"z\" eject line at 2 \"q\" end");
    CHECKS.fails("promise 19: no run", IndexOutOfBoundsException.class, () -> mill.mill.byteAt(1, 1, 1));
    mill.mill.run();
    CHECKS.same("promise 19: first", mill.mill.byteAt(1, 1, 1), 'a');
    CHECKS.same("promise 19: last", mill.mill.byteAt(1, 1, 11), 'z');
    CHECKS.same("promise 19: blank", mill.mill.byteAt(1, 1, 4), ' ');
    CHECKS.same("promise 19: last line", mill.mill.byteAt(1, 4, 11), ' ');
    CHECKS.same("promise 19: second page", mill.mill.byteAt(2, 1, 2), 'q');
    int[][] bad = {{0, 1, 1}, {3, 1, 1}, {-1, 1, 1}, {1, 0, 1}, {1, 5, 1}, {1, 1, 0}, {1, 1, 12}, {1, 1, -1}, {1, -3, 1},
        {Integer.MIN_VALUE, 1, 1}, {1, Integer.MAX_VALUE, 1}, {1, 1, Integer.MAX_VALUE}};
    for (int[] place : bad) {
      CHECKS.fails("promise 19: " + place[0] + " " + place[1] + " " + place[2], IndexOutOfBoundsException.class,
          () -> mill.mill.byteAt(place[0], place[1], place[2]));
    }
  }

  private static void sums() {
    Mill mill = new Mill();
    mill.compile("page 10 4 band title line \"ab\" end");
    CHECKS.fails("promise 20: no run", IndexOutOfBoundsException.class, () -> mill.mill.lineSum(1, 1));
    mill.mill.run();
    long sum = 0;
    for (char sign : "ab        ".toCharArray()) {
      sum = sum * 31 + sign;
    }
    CHECKS.same("promise 20: a line", mill.mill.lineSum(1, 1), sum);
    sum = 0;
    for (int i = 0; i < 10; i++) {
      sum = sum * 31 + 32;
    }
    CHECKS.same("promise 20: an empty line", mill.mill.lineSum(1, 4), sum);
    int[][] bad = {{0, 1}, {2, 1}, {1, 0}, {1, 5}, {-1, -1}};
    for (int[] line : bad) {
      CHECKS.fails("promise 20: " + line[0] + " " + line[1], IndexOutOfBoundsException.class,
          () -> mill.mill.lineSum(line[0], line[1]));
    }
  }

  private static void takenRows() {
    Mill mill = new Mill().columns("n").cells(3, 1, 2);
    mill.compile("order n");
    CHECKS.fails("promise 21: no run", IndexOutOfBoundsException.class, () -> mill.mill.taken(0));
    mill.mill.run();
    CHECKS.same("promise 21: first", mill.mill.taken(0), 1);
    CHECKS.same("promise 21: last", mill.mill.taken(2), 0);
    CHECKS.fails("promise 21: -1", IndexOutOfBoundsException.class, () -> mill.mill.taken(-1));
    CHECKS.fails("promise 21: 3", IndexOutOfBoundsException.class, () -> mill.mill.taken(3));
    mill.compile("order n band row line 1 / (n - 2) end");
    mill.mill.run();
    CHECKS.same("promise 21: the row of an error", mill.mill.taken(1), 2);
    CHECKS.fails("promise 21: behind an error", IndexOutOfBoundsException.class, () -> mill.mill.taken(2));
  }

  private static void filling() {
    Mill mill = new Mill();
    CHECKS.same("promise 24: no program", "" + mill.mill.filled(), "0.0");
    mill.compile("page 10 4 band title line \"abc d\" end");
    CHECKS.same("promise 24: no run", "" + mill.mill.filled(), "0.0");
    mill.mill.run();
    CHECKS.same("promise 24: four of 40", "" + mill.mill.filled(), "0.1");
    mill.compile("page 10 4 band title line \"abcdefghij\" eject line \"x\" end");
    mill.mill.run();
    CHECKS.same("promise 24: eleven of 80", "" + mill.mill.filled(), "0.1375");
    mill.compile("page 11 6 band title line \"a\" end");
    mill.mill.run();
    CHECKS.same("promise 24: one of 66", "" + mill.mill.filled(), "" + 1.0 / 66);
    mill.compile("page 10 4");
    mill.mill.run();
    CHECKS.same("promise 24: empty pages", "" + mill.mill.filled(), "0.0");
    mill.columns("a");
    CHECKS.same("promise 24: the program is gone", "" + mill.mill.filled(), "0.0");
  }

  /** The sum as the document says it, of what the other calls tell. */
  private static long digest(ReportMill mill) {
    long d = 257;
    for (int what = 0; what < 3; what++) {
      d = d * 31 + mill.count(what);
    }
    for (int row = 0; row < mill.count(1); row++) {
      for (int column = 0; column < mill.count(0); column++) {
        d = d * 31 + mill.cell(row, column);
      }
    }
    d = d * 31 + mill.codeSize();
    for (int i = 0; i < mill.codeSize(); i++) {
      d = (d * 31 + mill.code(i, false)) * 31 + mill.code(i, true);
    }
    for (int what = 0; what < 5; what++) {
      d = d * 31 + mill.told(what);
    }
    for (int page = 1; page <= mill.told(1); page++) {
      for (int line = 1; line <= mill.size(true); line++) {
        d = d * 31 + mill.lineSum(page, line);
      }
    }
    return d;
  }

  private static void digests() {
    Mill mill = new Mill();
    long empty = 257;
    for (int i = 0; i < 9; i++) {
      empty *= 31;
    }
    CHECKS.same("promise 25: a new object", mill.mill.digest(), empty);
    mill.columns("a", "t$", "c");
    CHECKS.same("promise 25: columns", mill.mill.digest(), digest(mill.mill));
    mill.cells(5, "xyz", -1, 6);
    CHECKS.same("promise 25: half a row", mill.mill.digest(), digest(mill.mill));
    mill.cells("", 9).tape("let x");
    CHECKS.same("promise 25: a tape", mill.mill.digest(), digest(mill.mill));
    mill.compile("page 20 5 let x = a + 1 band row line x t eject end");
    CHECKS.same("promise 25: a program", mill.mill.digest(), digest(mill.mill));
    mill.mill.run();
    CHECKS.same("promise 17: two rows", mill.mill.told(1), 3);
    CHECKS.same("promise 25: a run", mill.mill.digest(), digest(mill.mill));
    mill.compile("band row line a / (a - 6) end");
    mill.mill.run();
    CHECKS.same("promise 25: an error", mill.mill.digest(), digest(mill.mill));
  }
}
