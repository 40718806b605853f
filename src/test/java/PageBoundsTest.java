/** The boundary cases of section 4's pages, lines and pieces, and of promises 18 to 20, 24 and 25. */
public final class PageBoundsTest {
  private static final Checks CHECKS = new Checks();

  public static void main(String[] args) {
    emptyPage();
    leastAndGreatestPage();
    lastLineOfTheBody();
    bodyOfOneLine();
    linesOfTop();
    linesOfBottom();
    skipsInTopAndBottom();
    skipsToTheEnd();
    skipsBeyondTheEnd();
    needs();
    needsOfAnEmptyBody();
    ejects();
    keepsThatFit();
    keepsOfAWholeBody();
    keepsThatNeverFit();
    keepsOfNothing();
    linesOfKeeps();
    valuesOfKeeps();
    keepsWithinKeeps();
    emptyLines();
    placesOfAt();
    placesBehindTheEnd();
    bytesOverOthers();
    piecesWithoutField();
    fieldsOfTexts();
    fieldsOfNumbers();
    sides();
    oddBlanks();
    widestFields();
    longestTexts();
    thirtyPages();
    pageThirtyOne();
    pageThirtyOneInTheSecondRun();
    errorsOnPageThirty();
    countedLines();
    pagesOfALaterRun();
    places();
    sums();
    sumsWrapAround();
    shares();
    digests();
    CHECKS.end();
  }

  /** Runs a program without rows and holds its pages against the due ones. */
  private static Mill pages(String program, String due) {
    Mill mill = new Mill().columns("n", "t$");
    CHECKS.same(program, mill.error(program), "0@-1");
    mill.mill.run();
    CHECKS.same(program, mill.pagesLike(due), due);
    return mill;
  }

  /** The title on pages of four lines. */
  private static void title(String items, String due) {
    pages("page 12 4 band title " + items + " end", due);
  }

  /** The title on pages of six lines, of which top and bottom take one each. */
  private static void framed(String items, String due) {
    pages("page 12 6 band top line \"t\" end band bottom line \"b\" end band title " + items + " end", due);
  }

  private static void line(String pieces, String due) {
    title("line " + pieces, due + "|||");
  }

  /** "It begins with page 1" and "then the last page ends": there is always one. */
  private static void emptyPage() {
    Mill mill = pages("page 10 4", "|||");
    CHECKS.same("promise 17: one page", mill.mill.told(1), 1);
    CHECKS.same("promise 17: no lines", mill.mill.told(3), 0);
    pages("page 10 4 band title end band row end band summary end band top end band bottom end", "|||");
    pages("", "|".repeat(19));
  }

  /** Pages of 4 lines of 10 bytes, and of 40 lines of 60 bytes. */
  private static void leastAndGreatestPage() {
    Mill least = pages("page 10 4 band title line \"a\" skip 2 line at 10 \"z\" end", "a|||         z");
    CHECKS.same("promise 19: the first byte", least.mill.byteAt(1, 1, 1), 'a');
    CHECKS.same("promise 19: the last byte", least.mill.byteAt(1, 4, 10), 'z');
    CHECKS.fails("promise 19: behind it", IndexOutOfBoundsException.class, () -> least.mill.byteAt(1, 4, 11));
    CHECKS.fails("promise 19: below it", IndexOutOfBoundsException.class, () -> least.mill.byteAt(1, 5, 10));
    Mill greatest = pages("page 60 40 band title line \"a\" skip 38 line at 60 \"z\" end", "a" + "|".repeat(39) + " ".repeat(59) + "z");
    CHECKS.same("promise 19: the first byte", greatest.mill.byteAt(1, 1, 1), 'a');
    CHECKS.same("promise 19: the last byte", greatest.mill.byteAt(1, 40, 60), 'z');
    CHECKS.fails("promise 19: behind it", IndexOutOfBoundsException.class, () -> greatest.mill.byteAt(1, 40, 61));
    CHECKS.fails("promise 19: below it", IndexOutOfBoundsException.class, () -> greatest.mill.byteAt(1, 41, 60));
  }

  /** "line: if the body has no line left, a break". */
  private static void lastLineOfTheBody() {
    title("line 1 line 2 line 3", "1|2|3|");
    title("line 1 line 2 line 3 line 4", "1|2|3|4");
    title("line 1 line 2 line 3 line 4 line 5", "1|2|3|4 // 5|||");
    title("line 1 line 2 line 3 line 4 line 5 line 6 line 7 line 8", "1|2|3|4 // 5|6|7|8");
    framed("line 1 line 2 line 3 line 4", "t|1|2|3|4|b");
    framed("line 1 line 2 line 3 line 4 line 5", "t|1|2|3|4|b // t|5||||b");
    pages("page 10 4 band title line 1 line 2 line 3 line 4 end band summary line 5 end", "1|2|3|4 // 5|||");
  }

  /** "the heights .. are together less than h": the body has at least one line. */
  private static void bodyOfOneLine() {
    pages("page 10 4 band top line \"t\" line end band bottom line \"b\" end band title line 1 line 2 end", "t||1|b // t||2|b");
    pages("page 10 4 band top skip 3 end band title line 1 line 2 end", "|||1 // |||2");
    pages("page 10 4 band bottom skip 3 end band title line 1 skip 1 line 2 end", "1||| // 2|||");
    pages("page 10 4 band bottom skip 2 line \"b\" end band title skip 40 need 1 need 40 eject line 2 eject end",
        "|||b // 2|||b // |||b");
    pages("page 10 4 band bottom skip 3 end band title line 1 keep line 2 end keep line 3 line 4 end end",
        "1||| // 2||| // 3||| // 4|||");
  }

  /** "then the band top is done in its first lines". */
  private static void linesOfTop() {
    pages("page 10 4 band top end band title line 1 end", "1|||");
    pages("page 10 4 band top line end band title line 1 end", "|1||");
    pages("page 10 4 band top line \"a\" line \"b\" line pageno end band title line 1 line 2 end", "a|b|1|1 // a|b|2|2");
  }

  /** "the band bottom is done in the last lines of the page, its height, whatever is free above it". */
  private static void linesOfBottom() {
    pages("page 10 4 band bottom end band title line 1 end", "1|||");
    pages("page 10 4 band bottom line \"b\" end", "|||b");
    pages("page 10 4 band bottom line \"a\" line \"b\" line \"c\" end", "|a|b|c");
    pages("page 10 5 band bottom line \"b\" pageno end band title line 1 line 2 line 3 line 4 line 5 end", "1|2|3|4|b1 // 5||||b2");
    pages("page 10 4 band bottom line \"a\" line \"b\" line \"c\" end band title line 1 eject eject line 2 end", "1|a|b|c // 2|a|b|c");
  }

  private static void skipsInTopAndBottom() {
    pages("page 10 6 band top skip 1 line \"t\" skip 1 end band bottom skip 1 line \"b\" end band title line 1 end", "|t||1||b");
    pages("page 10 6 band bottom line \"b\" skip 1 end band top line \"t\" skip 1 end band title line 1 line 2 line 3 end",
        "t||1|2|b| // t||3||b|");
    pages("page 10 40 band top skip 39 end band title line 1 end", "|".repeat(39) + "1");
  }

  /** "skip n: the next n lines stay empty". */
  private static void skipsToTheEnd() {
    title("skip 1 line 1", "|1||");
    title("skip 3 line 1", "|||1");
    title("skip 4", "|||");
    title("skip 4 line 1", "||| // 1|||");
    title("line 1 skip 2 line 2", "1|||2");
    title("line 1 skip 3 line 2", "1||| // 2|||");
    framed("line 1 skip 2 line 2", "t|1|||2|b");
    framed("line 1 skip 3", "t|1||||b");
    pages("page 10 40 band title skip 40 line 1 end", "|".repeat(39) + " // 1" + "|".repeat(39));
  }

  /** "if the body has fewer left, all that are left": without a break. */
  private static void skipsBeyondTheEnd() {
    title("skip 5 line 1", "||| // 1|||");
    title("skip 40 line 1", "||| // 1|||");
    title("line 1 skip 4 line 2", "1||| // 2|||");
    title("line 1 line 2 line 3 line 4 skip 1", "1|2|3|4");
    title("line 1 line 2 line 3 line 4 skip 40 skip 40", "1|2|3|4");
    title("skip 40 skip 40 line 1", "||| // 1|||");
    framed("skip 40 skip 40 line 1", "t|||||b // t|1||||b");
    pages("page 10 39 band title skip 40 end", "|".repeat(38));
  }

  /** "need n: if the body has fewer than n lines left and is not quite empty, a break." */
  private static void needs() {
    title("line 1 need 2 line 2", "1|2||");
    title("line 1 need 3 line 2", "1|2||");
    title("line 1 need 4 line 2", "1||| // 2|||");
    title("line 1 need 40 line 2", "1||| // 2|||");
    title("line 1 line 2 line 3 need 1 line 4", "1|2|3|4");
    title("line 1 line 2 line 3 line 4 need 1", "1|2|3|4 // |||");
    title("skip 1 need 4 line 2", "||| // 2|||");
    framed("line 1 need 3 line 2", "t|1|2|||b");
    framed("line 1 need 4 line 2", "t|1||||b // t|2||||b");
  }

  /** "(A body is quite empty as long as no line of it was printed or skipped.)" */
  private static void needsOfAnEmptyBody() {
    title("need 4 line 1", "1|||");
    title("need 5 line 1", "1|||");
    title("need 40 need 40 line 1", "1|||");
    title("line 1 need 4 need 4 need 40 line 2", "1||| // 2|||");
    framed("need 5 line 1", "t|1||||b");
    framed("need 40 line 1", "t|1||||b");
    title("line need 4 line 2", "||| // 2|||");
  }

  /** "eject: if the body is not quite empty, a break." */
  private static void ejects() {
    title("eject", "|||");
    title("eject eject line 1", "1|||");
    title("line 1 eject", "1||| // |||");
    title("line 1 eject eject line 2", "1||| // 2|||");
    title("line eject line 2", "||| // 2|||");
    title("skip 1 eject line 2", "||| // 2|||");
    title("line 1 line 2 line 3 line 4 eject", "1|2|3|4 // |||");
    framed("eject line 1 eject eject", "t|1||||b // t|||||b");
  }

  /** "if the body has fewer than k lines left". */
  private static void keepsThatFit() {
    title("line 1 line 2 keep line 3 line 4 end", "1|2|3|4");
    title("line 1 line 2 line 3 keep line 4 line 5 end", "1|2|3| // 4|5||");
    title("line 1 line 2 line 3 keep line 4 end", "1|2|3|4");
    title("line 1 line 2 line 3 line 4 keep line 5 end", "1|2|3|4 // 5|||");
    framed("line 1 line 2 keep line 3 line 4 end", "t|1|2|3|4|b");
    framed("line 1 line 2 keep line 3 line 4 line 5 end", "t|1|2|||b // t|3|4|5||b");
  }

  /** "but the whole body of a page has at least k". */
  private static void keepsOfAWholeBody() {
    title("keep line 1 line 2 line 3 line 4 end", "1|2|3|4");
    title("line 0 keep line 1 line 2 line 3 line 4 end", "0||| // 1|2|3|4");
    framed("line 0 keep line 1 line 2 line 3 line 4 end", "t|0||||b // t|1|2|3|4|b");
    title("line 0 keep skip 4 end line 1", "0||| // ||| // 1|||");
    title("line 0 keep skip 2 line 3 skip 1 end", "0||| // ||3|");
  }

  private static void keepsThatNeverFit() {
    title("line 0 keep line 1 line 2 line 3 line 4 line 5 end", "0|1|2|3 // 4|5||");
    title("keep line 1 line 2 line 3 line 4 line 5 end", "1|2|3|4 // 5|||");
    framed("line 0 keep line 1 line 2 line 3 line 4 line 5 end", "t|0|1|2|3|b // t|4|5|||b");
    title("line 0 keep skip 5 end line 1", "0||| // 1|||");
    title("line 0 keep skip 4 line 1 end", "0||| // 1|||");
    title("line 0 keep skip 40 line 1 skip 40 end", "0||| // 1|||");
    pages("page 10 40 band title line 0 keep skip 40 line 1 end end", "0" + "|".repeat(39) + " // 1" + "|".repeat(39));
    pages("page 10 40 band title line 0 keep skip 39 line 1 end end", "0" + "|".repeat(39) + " // " + "|".repeat(39) + "1");
  }

  /** A keep of no lines never breaks, also at the end of the body. */
  private static void keepsOfNothing() {
    title("keep end line 1", "1|||");
    title("line 1 line 2 line 3 line 4 keep end", "1|2|3|4");
    title("line 1 line 2 line 3 line 4 keep if 0 then line 5 end end", "1|2|3|4");
    title("line 1 keep eject end line 2", "1||| // 2|||");
    title("line 1 keep need 4 end line 2", "1||| // 2|||");
  }

  /** "(a skip n counts n ..; need, eject and breaks do not count)". */
  private static void linesOfKeeps() {
    title("line 1 keep line 2 skip 2 end", "1|2||");
    title("line 1 line 2 keep line 3 skip 2 end", "1|2|| // 3|||");
    title("line 1 line 2 keep skip 2 end", "1|2||");
    title("line 1 line 2 keep skip 3 end line 3", "1|2|| // |||3");
    title("line 1 line 2 keep need 40 line 3 end", "1|2|| // 3|||");
    title("line 1 line 2 keep line 3 need 2 line 4 end", "1|2|3| // 4|||");
    title("line 1 line 2 keep line 3 eject line 4 end", "1|2|3| // 4|||");
    title("line 1 line 2 keep line 3 eject line 4 line 5 end", "1|2|| // 3||| // 4|5||");
  }

  /** "with all values as they are ahead of it (an if within takes the branch that it has then ..)". */
  private static void valuesOfKeeps() {
    title("line 1 line 2 line 3 keep if pageno = 1 then line 4 line 5 else line 6 end end", "1|2|3| // 6|||");
    title("line 1 line 2 line 3 keep if pageno = 1 then line 4 else line 5 line 6 end end", "1|2|3|4");
    title("line 1 line 2 line 3 keep if pageno = 2 then line 4 line 5 end line 6 end", "1|2|3|6");
    title("line 1 line 2 keep line 3 eject if pageno = 2 then line 4 line 5 line 6 end end", "1|2|3| // 4|5|6|");
    title("line 1 line 2 line 3 keep if 1 then if 0 then line 7 line 8 else line 4 end end end", "1|2|3|4");
  }

  private static void keepsWithinKeeps() {
    title("line 1 line 2 keep line 3 keep line 4 end end", "1|2|3|4");
    title("line 1 line 2 keep line 3 keep line 4 line 5 end end", "1|2|| // 3|4|5|");
    title("line 1 keep line 2 line 3 keep line 4 line 5 end line 6 end", "1|2|3| // 4|5|6|");
    title("line 1 keep keep keep line 2 line 3 line 4 line 5 end end end", "1||| // 2|3|4|5");
    String keeps = "keep ".repeat(12);
    String ends = " end".repeat(12);
    title("line 1 line 2 line 3 " + keeps + "line 4" + ends, "1|2|3|4");
    title("line 1 line 2 line 3 " + keeps + "line 4 line 5" + ends, "1|2|3| // 4|5||");
  }

  /** "then its pieces are printed into the next line": also none. */
  private static void emptyLines() {
    title("line line 2", "|2||");
    title("line \"\" line t line 3", "||3|");
    title("line at 5 line 2", "|2||");
    title("line line line line line 5", "||| // 5|||");
  }

  /** "The place in a line is at first 1. at n sets it to n." */
  private static void placesOfAt() {
    line("\"a\"", "a");
    line("at 1 \"a\"", "a");
    line("at 2 \"a\"", " a");
    line("at 12 \"a\"", "           a");
    line("\"abc\" at 1 \"d\"", "dbc");
    line("\"abc\" at 4 \"d\"", "abcd");
    line("at 12 at 1 \"a\"", "a");
    title("line \"abc\" line \"d\"", "abc|d||");
  }

  /** "bytes beyond the line's end are lost; the place goes on behind them." */
  private static void placesBehindTheEnd() {
    line("\"abcdefghijkl\"", "abcdefghijkl");
    line("\"abcdefghijklm\"", "abcdefghijkl");
    line("\"abcdefghijklm\" \"n\"", "abcdefghijkl");
    line("\"abcdefghijkl\" \"n\" at 1 \"o\"", "obcdefghijkl");
    line("at 12 \"abc\" \"d\"", "           a");
    line("at 11 \"abc\" \"d\"", "          ab");
    line("\"\" : 11 \"ab\"", "           a");
    line("\"\" : 12 \"ab\"", "");
    line("\"\" : 60 \"\" : 60 \"\" : 60 \"a\"", "");
    title("line \"abcdefghijklmnop\" line \"q\"", "abcdefghijkl|q||");
    title("line line line line at 12 \"xyz\"", "|||           x");
    title("line 1 line 2 line 3 line at 12 \"xyz\" line 5", "1|2|3|           x // 5|||");
    line("\"a\" : 60 at 12 \"b\"", "a          b");
  }

  /** "The bytes are printed from the place on, over what is there". */
  private static void bytesOverOthers() {
    line("\"abcdef\" at 3 \"XY\"", "abXYef");
    line("\"abcdef\" at 3 \"\"", "abcdef");
    line("\"abcdef\" at 3 \" \"", "ab def");
    line("\"abcdef\" at 3 \"\" : 2", "ab  ef");
    line("\"abcdef\" at 3 1 : 3", "ab  1f");
    line("\"abcdef\" at 3 1 : 3 left", "ab1  f");
    line("\"abcdef\" at 6 \"XY\"", "abcdeXY");
    line("\"abcdef\" at 7 \"XY\"", "abcdefXY");
    line("\"abcdefghijkl\" at 12 \"XY\"", "abcdefghijkX");
  }

  /** "without ":" as it is". */
  private static void piecesWithoutField() {
    line("\"\"", "");
    line("0", "0");
    line("(-1) 1", "-11");
    line("\"a\" \"\" \"b\"", "ab");
    line("123456789 \"abc\" 4", "123456789abc");
    line("n t \".\"", "0.");
    line("1 = 1 \"x\"", "1x");
  }

  /** "a text is cut to its first n bytes"; "then blanks make it n bytes long". */
  private static void fieldsOfTexts() {
    line("\"abc\" : 1 \".\"", "a.");
    line("\"abc\" : 2 \".\"", "ab.");
    line("\"abc\" : 3 \".\"", "abc.");
    line("\"abc\" : 4 \".\"", "abc .");
    line("\"abc\" : 2 right \".\"", "ab.");
    line("\"abc\" : 3 right \".\"", "abc.");
    line("\"abc\" : 2 mid \".\"", "ab.");
    line("\"abc\" : 3 mid \".\"", "abc.");
    line("\"\" : 1 \".\"", " .");
    line("text(123) : 2 \".\"", "12.");
    line("1 & 23 : 2 \".\"", "12.");
  }

  /** "a number that has more than n bytes becomes n times the byte 42". */
  private static void fieldsOfNumbers() {
    line("123 : 1 \".\"", "*.");
    line("123 : 2 \".\"", "**.");
    line("123 : 3 \".\"", "123.");
    line("123 : 4 \".\"", " 123.");
    line("-12 : 2 \".\"", "**.");
    line("-12 : 3 \".\"", "-12.");
    line("123 : 2 left \".\"", "**.");
    line("123 : 2 mid \".\"", "**.");
    line("123 : 3 left \".\"", "123.");
    line("123 : 3 mid \".\"", "123.");
    line("0 : 1 \".\"", "0.");
    line("n : 1 \".\"", "0.");
    line("len(\"abcdefghij\") : 1 \".\"", "*.");
    line("65536 * 65536 * 65536 * 32768 : 19 \".\"", "************");
    pages("page 24 4 band title line 65536 * 65536 * 65536 * 32768 : 20 \".\" end", "-9223372036854775808.|||");
    pages("page 24 4 band title line 65536 * 65536 * 65536 * 32768 : 21 \".\" end", " -9223372036854775808.|||");
    pages("page 24 4 band title line 65536 * 65536 * 65536 * 32768 : 19 \".\" end", "*******************.|||");
  }

  /** "behind it (left, and what stands without .. for texts), ahead of it (right, and without these for numbers)". */
  private static void sides() {
    line("\"ab\" : 5 \".\"", "ab   .");
    line("\"ab\" : 5 left \".\"", "ab   .");
    line("\"ab\" : 5 right \".\"", "   ab.");
    line("12 : 5 \".\"", "   12.");
    line("12 : 5 right \".\"", "   12.");
    line("12 : 5 left \".\"", "12   .");
    line("t : 2 \".\"", "  .");
    line("n : 2 \".\"", " 0.");
    line("text(n) : 2 \".\"", "0 .");
  }

  /** "on both sides (mid; the odd one behind)". */
  private static void oddBlanks() {
    line("\"ab\" : 3 mid \".\"", "ab .");
    line("\"ab\" : 4 mid \".\"", " ab .");
    line("\"ab\" : 5 mid \".\"", " ab  .");
    line("\"ab\" : 6 mid \".\"", "  ab  .");
    line("12 : 3 mid \".\"", "12 .");
    line("12 : 4 mid \".\"", " 12 .");
    line("12 : 5 mid \".\"", " 12  .");
    line("\"\" : 3 mid \".\"", "   .");
    line("\"a\" : 1 mid \".\"", "a.");
    line("\"a\" : 2 mid \".\"", "a .");
  }

  private static void widestFields() {
    pages("page 60 4 band title line \"a\" : 60 line \"a\" : 60 right line \"a\" : 60 mid line 1 : 60 end",
        "a|" + " ".repeat(59) + "a|" + " ".repeat(29) + "a|" + " ".repeat(59) + "1");
    line("\"a\" : 60 right", "");
    line("\"a\" : 60 left", "a");
    line("12 : 60 mid", "");
    line("at 12 12 : 60 left", "           1");
  }

  /** "A text that is reckoned has at most 60 bytes". */
  private static void longestTexts() {
    String twenty = "\"abcdefghijABCDEFGHIJ\"";
    String sixty = "abcdefghijABCDEFGHIJ".repeat(3);
    String join = twenty + " & " + twenty + " & " + twenty;
    pages("page 60 4 band title line " + join + " line " + join + " & \"x\" line " + join + " : 60 mid line " + join + " : 59 end",
        sixty + "|" + sixty + "|" + sixty + "|" + sixty.substring(0, 59));
    pages("page 10 4 band title line " + join + " at 1 \"x\" end", "xbcdefghij|||");
    pages("page 60 4 band title line at 60 " + join + " line \"y\" end", " ".repeat(59) + "a|y||");
  }

  private static String numbered(int first, int last) {
    StringBuilder pages = new StringBuilder();
    for (int page = first; page <= last; page++) {
      pages.append(page == first ? "" : " // ").append(page).append("|||b");
    }
    return pages.toString();
  }

  private static Mill rows(int many) {
    Mill mill = new Mill().columns("n");
    for (int row = 1; row <= many; row++) {
      mill.cells(row);
    }
    return mill;
  }

  /** "At most 30 pages". */
  private static void thirtyPages() {
    Mill mill = rows(30);
    mill.compile("page 10 4 band bottom line \"b\" end band row if rowno > 1 then eject end line n end");
    CHECKS.same("promise 16: 30 pages", mill.mill.run(), 0);
    CHECKS.same("promise 17: 30 pages", mill.mill.told(1), 30);
    CHECKS.same("promise 17: 30 pages", mill.mill.told(3), 60);
    CHECKS.same("promise 19: 30 pages", mill.pagesLike(numbered(1, 30)), numbered(1, 30));
    CHECKS.fails("promise 19: page 31", IndexOutOfBoundsException.class, () -> mill.mill.byteAt(31, 1, 1));
    CHECKS.fails("promise 20: page 31", IndexOutOfBoundsException.class, () -> mill.mill.lineSum(31, 1));
    Mill greatest = rows(30);
    greatest.compile("page 60 40 band bottom skip 38 line at 60 \"z\" end band row if rowno > 1 then eject end line n end");
    CHECKS.same("promise 16: the greatest pages", greatest.mill.run(), 0);
    CHECKS.same("promise 19: the last byte of all", greatest.mill.byteAt(30, 40, 60), 'z');
    CHECKS.same("promise 19: the first byte of all", greatest.mill.byteAt(1, 1, 1), '1');
    CHECKS.same("promise 19: the last page", greatest.mill.byteAt(30, 1, 2), '0');
    CHECKS.same("promise 24: the greatest pages", "" + greatest.mill.filled(), "" + (30 + 9 + 21 * 2) / 72000.0);
  }

  /** "a break behind page 30 stops the run with error 4 when that page has ended." */
  private static void pageThirtyOne() {
    Mill mill = rows(31);
    mill.compile("page 10 4 total s = sum 1 band bottom line \"b\" end band row if rowno > 1 then eject end line n end"
        + " band summary line \"s\" end");
    CHECKS.same("promise 9: 31 pages", mill.mill.errorAt(), -1);
    CHECKS.same("promise 16: 31 pages", mill.mill.run(), 4);
    int[] due = {30, 30, 31, 60, 4};
    for (int what = 0; what < 5; what++) {
      CHECKS.same("promise 17: 31 pages, " + what, mill.mill.told(what), due[what]);
    }
    CHECKS.same("promise 22: 31 pages", mill.mill.total(0), 31);
    CHECKS.same("promise 19: the last page has ended", mill.pagesLike(numbered(1, 30)), numbered(1, 30));
    String[] breaks = {"line 31 line 32 line 33 line 34 line 35", "eject", "need 4", "keep line 31 line 32 line 33 end", "keep eject end",
        "if 1 then eject end"};
    for (String items : breaks) {
      Mill other = rows(30);
      other.compile("page 10 4 band bottom line \"b\" end band row if rowno > 1 then eject end line n end band summary " + items + " end");
      CHECKS.same("promise 16: " + items, other.mill.run(), 4);
      CHECKS.same("promise 17: " + items, other.mill.told(1), 30);
      CHECKS.same("promise 17: " + items, other.mill.told(3), items.startsWith("line") ? 62 : 60);
    }
    for (String items : new String[] {"line 31 line 32", "need 2", "keep line 31 line 32 end", "skip 40 skip 40"}) {
      Mill other = rows(30);
      other.compile("page 10 4 band bottom line \"b\" end band row if rowno > 1 then eject end line n end band summary " + items + " end");
      CHECKS.same("promise 16: " + items, other.mill.run(), 0);
      CHECKS.same("promise 17: " + items, other.mill.told(1), 30);
    }
  }

  private static void pageThirtyOneInTheSecondRun() {
    Mill mill = rows(31);
    mill.compile("page 10 4 band row line n if pages then eject end end");
    CHECKS.same("promise 16: the second run", mill.mill.run(), 4);
    int[] due = {8, 30, 30, 30, 4};
    for (int what = 0; what < 5; what++) {
      CHECKS.same("promise 17: the second run, " + what, mill.mill.told(what), due[what]);
    }
  }

  /** An error of the run at the end of page 30 comes ahead of error 4. */
  private static void errorsOnPageThirty() {
    Mill mill = rows(30);
    mill.compile("page 10 4 band bottom line \"b\" 1 / (pageno - 30) end band row line n eject end");
    CHECKS.same("promise 16: in the band bottom", mill.mill.run(), 2);
    CHECKS.same("promise 17: its lines", mill.mill.told(3), 59);
    mill.compile("page 10 4 band top line \"t\" 1 / (pageno - 31) end band row line n eject end");
    CHECKS.same("promise 16: there is no page 31", mill.mill.run(), 4);
    CHECKS.same("promise 17: its lines", mill.mill.told(3), 60);
  }

  /** "the lines that were printed in it (in all bands)". */
  private static void countedLines() {
    Mill mill = pages("page 12 6 band top line \"t\" skip 1 end band bottom line \"b\" end band title line line 2 skip 1 end"
        + " band summary line 3 end", "t|||2||b // t||3|||b");
    CHECKS.same("promise 17: lines", mill.mill.told(3), 7);
    CHECKS.same("promise 17: skips do not count", pages("page 10 4 band title skip 3 end", "|||").mill.told(3), 0);
    CHECKS.same("promise 17: lines without pieces do", pages("page 10 4 band title line line end", "|||").mill.told(3), 2);
  }

  /** "both from the beginning with empty pages". */
  private static void pagesOfALaterRun() {
    Mill mill = new Mill().columns("n").cells(1, 2, 3, 4, 5);
    mill.compile("page 12 4 band row line \"row\" n end");
    mill.mill.run();
    CHECKS.same("promise 19: five rows", mill.pagesLike("row1|row2|row3|row4 // row5|||"), "row1|row2|row3|row4 // row5|||");
    mill.mill.clear();
    mill.cells(9);
    mill.mill.run();
    CHECKS.same("promise 19: one row", mill.pagesLike("row9|||"), "row9|||");
    CHECKS.fails("promise 20: page 2 is gone", IndexOutOfBoundsException.class, () -> mill.mill.lineSum(2, 1));
    mill.compile("page 60 40 band title line at 60 \"x\" end");
    mill.mill.run();
    String wide = " ".repeat(59) + "x" + "|".repeat(39);
    CHECKS.same("promise 19: another size", mill.pagesLike(wide), wide);
    mill.compile("page 10 4 band title end");
    mill.mill.run();
    CHECKS.same("promise 19: the least size", mill.pagesLike("|||"), "|||");
  }

  /** "page: from 1, line: from 1, place: from 1". */
  private static void places() {
    Mill mill = pages("page 10 4 band title line \"abcdefghij\" line \"k\" eject skip 3 line at 10 \"z\" end",
        "abcdefghij|k|| // |||         z");
    for (int place = 1; place <= 10; place++) {
      CHECKS.same("promise 19: place " + place, mill.mill.byteAt(1, 1, place), 'a' + place - 1);
    }
    CHECKS.same("promise 19: the next line", mill.mill.byteAt(1, 2, 1), 'k');
    CHECKS.same("promise 19: an empty line", mill.mill.byteAt(1, 4, 10), 32);
    CHECKS.same("promise 19: the next page", mill.mill.byteAt(2, 1, 1), 32);
    CHECKS.same("promise 19: the last byte", mill.mill.byteAt(2, 4, 10), 'z');
    int[][] bad = {{0, 1, 1}, {3, 1, 1}, {1, 0, 1}, {1, 5, 1}, {2, 5, 1}, {1, 1, 0}, {1, 1, 11}, {2, 4, 11}, {0, 5, 1}, {2, 0, 10}};
    for (int[] place : bad) {
      CHECKS.fails("promise 19: " + place[0] + " " + place[1] + " " + place[2], IndexOutOfBoundsException.class,
          () -> mill.mill.byteAt(place[0], place[1], place[2]));
    }
  }

  /** "s starts with 0; for each of its bytes, s becomes s * 31 + the byte". */
  private static void sums() {
    Mill mill = pages("page 10 4 band title line \"a\" eject skip 3 line \"~~~~~~~~~~\" end", "a||| // |||~~~~~~~~~~");
    CHECKS.same("promise 20: the first line", mill.mill.lineSum(1, 1), Mill.sum("a", 10));
    CHECKS.same("promise 20: an empty line", mill.mill.lineSum(1, 2), Mill.sum("", 10));
    CHECKS.same("promise 20: the last line", mill.mill.lineSum(2, 4), Mill.sum("~~~~~~~~~~", 10));
    int[][] bad = {{0, 1}, {3, 1}, {1, 0}, {1, 5}, {2, 5}, {0, 5}, {-1, 1}, {1, -1}};
    for (int[] line : bad) {
      CHECKS.fails("promise 20: " + line[0] + " " + line[1], IndexOutOfBoundsException.class,
          () -> mill.mill.lineSum(line[0], line[1]));
    }
  }

  /** "which wraps around." */
  private static void sumsWrapAround() {
    for (int width = 10; width <= 60; width++) {
      Mill mill = new Mill();
      mill.compile("page " + width + " 4 band title line \"abcdefghijklmnopqrst\" \"ABCDEFGHIJKLMNOPQRST\" \"01234567890123456789\" end");
      mill.mill.run();
      CHECKS.same("promise 20: " + width + " bytes", mill.mill.lineSum(1, 1),
          Mill.sum("abcdefghijklmnopqrstABCDEFGHIJKLMNOPQRST01234567890123456789", width));
    }
  }

  /** "the number of bytes other than blanks on all pages .. divided by the number of all bytes on them; 0 if there are none." */
  private static void shares() {
    Mill mill = new Mill();
    CHECKS.same("promise 24: a new object", "" + mill.mill.filled(), "0.0");
    mill.compile("page 10 4");
    CHECKS.same("promise 24: not run", "" + mill.mill.filled(), "0.0");
    mill.mill.run();
    CHECKS.same("promise 24: an empty page", "" + mill.mill.filled(), "0.0");
    String full = "line \"0123456789\" ";
    CHECKS.same("promise 24: a full page", "" + pages("page 10 4 band title " + full.repeat(4) + "end",
        "0123456789|0123456789|0123456789|0123456789").mill.filled(), "1.0");
    CHECKS.same("promise 24: one byte", "" + pages("page 10 4 band title line 1 end", "1|||").mill.filled(), "0.025");
    CHECKS.same("promise 24: the last byte", "" + pages("page 10 4 band title skip 3 line at 10 1 end", "|||         1").mill.filled(),
        "0.025");
    CHECKS.same("promise 24: the last of two pages", "" + pages("page 10 4 band title skip 1 eject line 1 end", "||| // 1|||").mill.filled(),
        "0.0125");
    CHECKS.same("promise 24: printed blanks", "" + pages("page 10 4 band title line \" a \" end", " a|||").mill.filled(), "0.025");
    CHECKS.same("promise 24: a third", "" + pages("page 30 4 band title line 1 end", "1|||").mill.filled(), "" + 1.0 / 120);
    mill.compile("page 10 4 band title line 1 end");
    mill.mill.run();
    mill.compile("nix");
    CHECKS.same("promise 24: no program", "" + mill.mill.filled(), "0.0");
  }

  /** "A number d starts with 257; for each of the following numbers x, d becomes d * 31 + x, which wraps around". */
  private static void digests() {
    ReportMill empty = new ReportMill();
    long due = 257;
    for (int i = 0; i < 9; i++) {
      due = due * 31;
    }
    CHECKS.same("promise 25: a new object", empty.digest(), due);
    empty.feed(0x20202020, 0x20202020, 0x20202020, 0x20202020, 0x20202020);
    CHECKS.same("promise 25: a tape", empty.digest(), due(new long[] {0, 0, 20, 0, 0, 0, 0, 0, 0}));
    Mill mill = new Mill().columns("n", "t$").cells(Long.MIN_VALUE, "a", Long.MAX_VALUE, "~~~~~~~~", -1);
    CHECKS.same("promise 25: rows", mill.mill.digest(),
        due(new long[] {2, 2, 0, Long.MIN_VALUE, 'a', Long.MAX_VALUE, 0x7e7e7e7e7e7e7e7eL, 0, 0, 0, 0, 0, 0}));
    mill.mill.clear();
    mill.compile("page 10 4 band title line -5 end");
    CHECKS.same("promise 25: a program", mill.mill.digest(), due(new long[] {2, 0, 0, 2, 0, -5, 30, 0, 0, 0, 0, 0, 0}));
    mill.mill.run();
    long empties = Mill.sum("", 10);
    CHECKS.same("promise 25: a page", mill.mill.digest(),
        due(new long[] {2, 0, 0, 2, 0, -5, 30, 0, 1, 1, 0, 1, 0, Mill.sum("-5", 10), empties, empties, empties}));
    mill.compile("page 10 4 band title line 1 eject line 1 / (pages - 2) end");
    mill.mill.run();
    CHECKS.same("promise 25: an error", mill.mill.digest(),
        due(new long[] {2, 0, 0, 8, 0, 1, 30, 0, 0, 1, 5, 1, 0, 2, 7, 0, 9, 0, 30, 0, 2, 2, 0, 1, 2,
            Mill.sum("1", 10), empties, empties, empties, empties, empties, empties, empties}));
    mill.compile("nix");
    CHECKS.same("promise 25: no program", mill.mill.digest(), due(new long[] {2, 0, 0, 0, 0, 0, 0, 0, 0}));
  }

  private static long due(long[] numbers) {
    long d = 257;
    for (long number : numbers) {
      d = d * 31 + number;
    }
    return d;
  }
}
