/** Section 4 of the document: how lines, skips, breaks and pieces come to stand on the pages. */
public final class PagesTest {
  private static final Checks CHECKS = new Checks();

  public static void main(String[] args) {
    pieces();
    fields();
    fieldsOfNumbers();
    places();
    lines();
    skips();
    needs();
    ejects();
    keeps();
    keepConditions();
    ifs();
    topAndBottom();
    mostPages();
    nesting();
    CHECKS.end();
  }

  /** Runs a program without rows and holds its pages against the due ones. */
  private static void pages(String program, String due) {
    Mill mill = new Mill().columns("n", "t$");
    String got = "error " + mill.error(program);
    if (mill.mill.errorAt() < 0) {
      mill.mill.run();
      got = mill.pagesLike(due);
    }
    CHECKS.same(program, got, due);
  }

  private static void title(String items, String due) {
    pages("page 12 4 band title " + items + " end", due);
  }

  private static void line(String pieces, String due) {
    title("line " + pieces, due + "|||");
  }

  private static void pieces() {
    line("", "");
    line("\"abc\"", "abc");
    line("\"abc\" \"de\" 5 -5", "abcde0");
    line("\"abc\" 5 (-5) \"x\"", "abc5-5x");
    line("123 n t \"x\"", "1230x");
    line("\"a b\" & 1 \" \" 2", "a b1 2");
    line("pageno pages rowno", "110");
    line("\"1234567890\" \"abcd\"", "1234567890ab");
    line("\"1234567890123456789\" \"abcd\"", "123456789012");
  }

  private static void fields() {
    line("\"abc\" : 5 \"x\"", "abc  x");
    line("\"abc\" : 5 left \"x\"", "abc  x");
    line("\"abc\" : 5 right \"x\"", "  abcx");
    line("\"abc\" : 5 mid \"x\"", " abc x");
    line("\"abc\" : 6 mid \"x\"", " abc  x");
    line("\"abc\" : 4 mid \"x\"", "abc x");
    line("\"abc\" : 3 right \"x\"", "abcx");
    line("\"ab\" : 3 right \"x\"", " abx");
    line("\"ab\" : 3 mid \"x\"", "ab x");
    line("\"abc\" : 2 right \"x\"", "abx");
    line("\"abc\" : 1 mid \"x\"", "ax");
    line("\"abc\" : 2 \"x\"", "abx");
    line("\"\" : 3 \"x\"", "   x");
    line("\"\" : 3 mid \"x\"", "   x");
    line("\"\" \"x\"", "x");
    line("text(12345) : 3 \"x\"", "123x");
    line("\"a\" : 60 right \"x\"", "");
    line("\"ab\" : 12 right", "          ab");
    line("\"ab\" : 13 right", "           a");
  }

  private static void fieldsOfNumbers() {
    line("12 : 5 \"x\"", "   12x");
    line("12 : 5 right \"x\"", "   12x");
    line("12 : 5 left \"x\"", "12   x");
    line("12 : 5 mid \"x\"", " 12  x");
    line("-12 : 3 \"x\"", "-12x");
    line("12 : 3 \"x\"", " 12x");
    line("-12 : 2 \"x\"", "**x");
    line("123456 : 5 left \"x\"", "*****x");
    line("123456 : 1 mid \"x\"", "*x");
    line("123456 : 6 mid \"x\"", "123456x");
    line("1 & 2 : 4 \"x\"", "12  x");
  }

  private static void places() {
    line("at 3 \"a\" at 1 \"b\"", "b a");
    line("at 3", "");
    line("\"abcdef\" at 2 \"X\" at 5 \"Y\" \"Z\"", "aXcdYZ");
    line("\"abcdef\" at 2 \"\" : 3 \"X\"", "a   Xf");
    line("\"abcdef\" at 2 9 : 3", "a  9ef");
    line("at 12 \"xyz\" at 11 \"w\"", "          wx");
    line("at 12 \"xyz\" \"v\" at 1 \"u\"", "u          x");
    line("at 5 at 2 \"a\"", " a");
  }

  private static void lines() {
    title("line 1 line 2 line 3 line 4", "1|2|3|4");
    title("line 1 line 2 line 3 line 4 line 5", "1|2|3|4 // 5|||");
    title("line line line line line 5", "||| // 5|||");
    pages("page 10 4 band title line 1 line 2 line 3 line 4 end band summary line 5 end", "1|2|3|4 // 5|||");
    pages("band title end", "|||||||||||||||||||");
  }

  private static void skips() {
    title("skip 1 line 1", "|1||");
    title("line 1 skip 2 line 2", "1|||2");
    title("line 1 skip 3 line 2", "1||| // 2|||");
    title("line 1 skip 40 line 2", "1||| // 2|||");
    title("skip 4 skip 4 skip 4 line 2", "||| // 2|||");
    title("skip 4", "|||");
    title("line 1 line 2 line 3 line 4 skip 1", "1|2|3|4");
  }

  private static void needs() {
    title("line 1 need 3 line 2", "1|2||");
    title("line 1 need 4 line 2", "1||| // 2|||");
    title("need 40 line 2", "2|||");
    title("skip 1 need 40 line 2", "||| // 2|||");
    title("skip 1 need 40 need 40 line 2", "||| // 2|||");
    title("skip 4 need 1", "||| // |||");
    title("skip 3 need 1 line 1", "|||1");
  }

  private static void ejects() {
    title("eject line 1", "1|||");
    title("line 1 eject line 2", "1||| // 2|||");
    title("line 1 eject eject eject line 2", "1||| // 2|||");
    title("skip 1 eject", "||| // |||");
    title("line eject line 2", "||| // 2|||");
    title("line 1 line 2 line 3 line 4 eject line 5", "1|2|3|4 // 5|||");
  }

  private static void keeps() {
    title("line 1 keep line 2 line 3 line 4 end", "1|2|3|4");
    title("line 1 line 2 keep line 3 line 4 line 5 end", "1|2|| // 3|4|5|");
    title("line 1 keep line 2 line 3 line 4 line 5 end", "1||| // 2|3|4|5");
    title("line 1 keep line 2 line 3 line 4 line 5 line 6 end", "1|2|3|4 // 5|6||");
    title("keep line 2 line 3 line 4 line 5 line 6 end", "2|3|4|5 // 6|||");
    title("keep line 1 line 2 end line 3 line 4", "1|2|3|4");
    title("line 1 line 2 keep line 3 skip 2 end", "1|2|| // 3|||");
    title("line 1 line 2 keep skip 40 line 3 end line 4", "1|2|| // 3|4||");
    title("line 1 line 2 line 3 keep line 4 need 4 line 5 end", "1|2|3| // 4||| // 5|||");
    title("line 1 line 2 line 3 keep line 4 need 4 eject end line 5", "1|2|3|4 // 5|||");
    title("line 1 line 2 line 3 line 4 keep end eject", "1|2|3|4 // |||");
    title("line 1 line 2 keep line 3 keep line 4 line 5 end end", "1|2|| // 3|4|5|");
    title("line 1 line 2 line 3 keep keep line 4 line 5 end end", "1|2|3| // 4|5||");
    title("line 1 line 2 line 3 line 4 keep line 5 end", "1|2|3|4 // 5|||");
    title("skip 3 keep line 1 line 2 end", "||| // 1|2||");
    pages("page 10 5 band bottom line \"b\" end band title line 1 keep line 2 line 3 line 4 line 5 end end",
        "1||||b // 2|3|4|5|b");
    pages("page 10 5 band top line \"t\" end band title line 1 keep line 2 line 3 line 4 line 5 line 6 end end",
        "t|1|2|3|4 // t|5|6||");
  }

  private static void keepConditions() {
    title("line 1 line 2 keep line 3 if 0 then line 4 line 5 else line 6 end end", "1|2|3|6");
    title("line 1 line 2 keep line 3 if 1 then line 4 line 5 else line 6 end end", "1|2|| // 3|4|5|");
    title("line 1 line 2 keep line 3 if pageno = 1 then line 4 line 5 else line 6 end end", "1|2|| // 3|6||");
    title("line 1 line 2 line 3 keep if pageno = 2 then line 4 line 5 else line 6 end end", "1|2|3|6");
    title("line 1 keep if 0 then line 1 / 0 if 1 / 0 then end else line 6 end end", "1|6||");
    title("line 1 line 2 line 3 keep if 1 then keep line 4 if 1 then line 5 end end end end", "1|2|3| // 4|5||");
  }

  private static void ifs() {
    title("if 1 then line 1 else line 2 end line 3", "1|3||");
    title("if 0 then line 1 else line 2 end line 3", "2|3||");
    title("if 0 then line 1 end line 3", "3|||");
    title("if 1 then else line 2 end line 3", "3|||");
    title("if -1 then line 1 end if \"a\" < \"b\" then line 2 end", "1|2||");
    title("if 1 then if 0 then line 1 else line 2 end else line 3 end", "2|||");
    title("if 0 then line 1 else if 0 then line 2 else line 3 end line 4 end line 5", "3|4|5|");
  }

  private static void topAndBottom() {
    pages("page 10 6 band top line \"t\" pageno skip 1 line \"u\" end band bottom skip 1 line \"b\" pageno end"
        + " band title line 1 line 2 skip 3 line 3 end",
        "t1||u|1||b1 // t2||u|2||b2 // t3||u|3||b3");
    pages("page 10 4 band bottom line \"b\" skip 2 end band title line 1 line 2 end", "1|b|| // 2|b||");
    pages("page 10 4 band top skip 3 end band title line 1 line 2 end", "|||1 // |||2");
    pages("page 10 4 band bottom line pageno \"/\" pages end band title line 1 eject line 2 end",
        "1|||1/2 // 2|||2/2");
    pages("page 10 4 band bottom line \"abc\" at 2 \"x\" end band top line \"q\" : 3 right end",
        "  q|||axc");
  }

  private static void mostPages() {
    Mill mill = new Mill().columns("n");
    for (int row = 0; row < 33; row++) {
      mill.cells(row);
    }
    mill.compile("page 10 4 band row line n if rowno < 30 then eject end end");
    CHECKS.same("thirty full pages", mill.mill.run(), 0);
    CHECKS.same("their number", mill.mill.told(1), 30);
    CHECKS.same("the last one", mill.page(30), "29|30|31|32");
    mill.cells(33);
    CHECKS.same("a line more", mill.mill.run(), 4);
    CHECKS.same("the row of it", mill.mill.told(2), 34);
    CHECKS.same("the lines without it", mill.mill.told(3), 33);
    mill.compile("page 10 4 total s = sum n band bottom line \"b\" s end band row line n eject end");
    CHECKS.same("a break behind page 30", mill.mill.run(), 4);
    CHECKS.same("its pages", mill.mill.told(1), 30);
    CHECKS.same("its pages of the first run", mill.mill.told(0), 30);
    CHECKS.same("its rows", mill.mill.told(2), 30);
    CHECKS.same("its lines", mill.mill.told(3), 60);
    CHECKS.same("its error", mill.mill.told(4), 4);
    CHECKS.same("its last page", mill.page(30), "29|||b435");
    CHECKS.same("its first page", mill.page(1), "0|||b0");
    mill.compile("page 10 4 band bottom line 1 / (30 - pageno) end band row line n eject end");
    CHECKS.same("an error at the end of page 30", mill.mill.run(), 2);
    CHECKS.same("its pages", mill.mill.told(1), 30);
  }

  private static void nesting() {
    StringBuilder items = new StringBuilder("line 1 line 2 line 3 ");
    for (int i = 0; i < 6; i++) {
      items.append("keep if 1 then ");
    }
    items.append("line 4 line 5 ");
    for (int i = 0; i < 6; i++) {
      items.append("end end ");
    }
    title(items.toString(), "1|2|3| // 4|5||");
    String keeps = "keep ".repeat(12);
    String ends = " end".repeat(12);
    title("line 1 line 2 line 3 " + keeps + "line 4 line 5" + ends, "1|2|3| // 4|5||");
    title("line 1 line 2 keep line 3 " + keeps.substring(5) + "line 4 line 5" + ends, "1|2|| // 3|4|5|");
    title("line 1 line 2 line 3 " + "if 1 then ".repeat(12) + "line 4 line 5" + ends, "1|2|3|4 // 5|||");
    for (String band : new String[] {"row", "before n", "after n", "summary"}) {
      Mill mill = new Mill().columns("n").cells(1, 2);
      String program = "page 10 4 group n band " + band + " " + keeps + "line n" + ends + " end";
      CHECKS.same("nesting in " + band, mill.error(program), "0@-1");
      CHECKS.same("nesting in " + band, mill.mill.run(), 0);
      CHECKS.same("nesting in " + band, mill.pages(), band.equals("summary") ? "2|||" : "1|2||");
    }
  }
}
