/** The boundary cases of the Terms, of section 1 (the tape and the table), and of promises 1 to 8. */
public final class TapeBoundsTest {
  private static final Checks CHECKS = new Checks();

  public static void main(String[] args) {
    newObject();
    lastCall();
    atMost2000Bytes();
    fullTapeIsRead();
    fourBytesOfEachNumber();
    keptBytes();
    emptyBehindColumn();
    emptyBehindCompile();
    emptyBehindEvaluate();
    atMost8Columns();
    wordsOfColumns();
    programIsGone();
    atMost40Rows();
    fortyRowsOfEightColumns();
    rowsThatAreNotThereYet();
    leastAndGreatestCells();
    bytesThatAre0();
    clearing();
    counts();
    CHECKS.end();
  }

  /** "Creates a mill with an empty tape, no columns and no program." */
  private static void newObject() {
    ReportMill mill = new ReportMill();
    CHECKS.same("promise 1: tape", mill.count(2), 0);
    CHECKS.same("promise 1: columns", mill.count(0), 0);
    CHECKS.same("promise 1: rows", mill.count(1), 0);
    CHECKS.same("promise 1: program", mill.codeSize(), 0);
    CHECKS.fails("promise 1: program", IllegalStateException.class, mill::run);
    CHECKS.same("promise 1: an empty tape is no expression", mill.evaluate(-1), 1);
    CHECKS.same("promise 1: its end is at 0", mill.errorAt(), 0);
    ReportMill other = new ReportMill();
    CHECKS.fails("promise 1: an empty tape is no word", IllegalArgumentException.class, () -> other.column(true));
    CHECKS.same("promise 1: an empty tape is a program", other.compile(), 0);
    CHECKS.same("promise 1: which can be run", other.run(), 0);
  }

  /** "An object is used for at most 512 calls after it has been made". */
  private static void lastCall() {
    ReportMill mill = new ReportMill();
    for (int call = 1; call <= 508; call += 4) {
      CHECKS.same("call " + call, mill.feed(0x31202b20, 0x32202020, 0x20202020, 0x20202020, 0x20202020), 20);
      CHECKS.same("call " + (call + 1), mill.trim(5), 5);
      CHECKS.same("call " + (call + 2), mill.evaluate(-1), 0);
      CHECKS.same("call " + (call + 3), mill.result(), 3);
    }
    CHECKS.same("call 509", mill.compile(), 0);
    CHECKS.same("call 510", mill.run(), 0);
    CHECKS.same("call 511", mill.byteAt(1, 20, 40), ' ');
    CHECKS.same("call 512", mill.told(1), 1);
  }

  /** "The tape is a row of at most 2000 bytes". */
  private static void atMost2000Bytes() {
    ReportMill mill = new ReportMill();
    for (int blocks = 1; blocks <= 100; blocks++) {
      CHECKS.same("promise 2: block " + blocks, mill.feed(0x20202020, 0x20202020, 0x20202020, 0x20202020, 0x20202020), 20 * blocks);
    }
    CHECKS.fails("promise 2: block 101", IllegalStateException.class, () -> mill.feed(1, 2, 3, 4, 5));
    for (int kept = 1999; kept > 1980; kept--) {
      mill.trim(kept);
      CHECKS.fails("promise 2: behind " + kept, IllegalStateException.class, () -> mill.feed(1, 2, 3, 4, 5));
      CHECKS.same("promise 2: still " + kept, mill.count(2), kept);
    }
    mill.trim(1980);
    CHECKS.same("promise 2: behind 1980", mill.feed(1, 2, 3, 4, 5), 2000);
    CHECKS.same("promise 2: 2000", mill.count(2), 2000);
  }

  /** The first and the last byte of a full tape are read. */
  private static void fullTapeIsRead() {
    CHECKS.same("promise 13: 2000 bytes", new Mill().value("7" + " ".repeat(1997) + "+4"), "11");
    CHECKS.same("promise 13: a wrong last byte", new Mill().value("7" + " ".repeat(1998) + "#"), "error 1@1999");
    CHECKS.same("promise 13: its end", new Mill().value("7" + " ".repeat(1998) + "+"), "error 1@2000");
    CHECKS.same("promise 13: 2000 blanks", new Mill().value(" ".repeat(2000)), "error 1@2000");
    CHECKS.same("promise 13: 2000 letters", new Mill().value("a".repeat(2000)), "error 1@0");
    CHECKS.same("promise 13: 2000 digits", new Mill().value("1".repeat(2000)), "error 1@0");
    CHECKS.same("promise 13: 2000 quotation marks", new Mill().value("\"".repeat(2000)), "error 1@2");
    CHECKS.same("promise 9: 2000 blanks", new Mill().error(" ".repeat(2000)), "0@-1");
    CHECKS.same("promise 9: 2000 bytes", new Mill().error("page 10 " + " ".repeat(1991) + "4"), "0@-1");
    CHECKS.same("promise 9: 2000 bytes of ends", new Mill().error("end ".repeat(500)), "1@0");
  }

  /** "Appends twenty bytes to the tape: the four bytes of each number, the highest one first." */
  private static void fourBytesOfEachNumber() {
    ReportMill mill = new ReportMill();
    mill.feed(0x22616263, 0x64656667, 0x68696a6b, 0x6c6d6e6f, 0x70717222);
    CHECKS.same("promise 2: a text of 18 bytes", mill.evaluate(-1), 7);
    for (int i = 0; i < 18; i++) {
      CHECKS.same("promise 2: byte " + i, mill.resultByte(i), 'a' + i);
    }
    for (int place = 0; place < 20; place++) {
      for (int b : new int[] {0, 1, 127, 128, 255}) {
        int[] numbers = {0x20202020, 0x20202020, 0x20202020, 0x20202020, 0x20202020};
        int shift = 24 - place % 4 * 8;
        numbers[place / 4] = numbers[place / 4] & ~(255 << shift) | b << shift;
        ReportMill other = new ReportMill();
        other.feed(numbers[0], numbers[1], numbers[2], numbers[3], numbers[4]);
        CHECKS.same("promise 2: byte " + b + " at " + place, other.compile(), 1);
        CHECKS.same("promise 2: byte " + b + " at " + place, other.errorAt(), place);
      }
    }
  }

  /** "Shortens the tape to its first bytes." */
  private static void keptBytes() {
    for (int kept = 0; kept <= 20; kept++) {
      Mill mill = new Mill().tape("123456789 + 123456789".substring(0, 20));
      CHECKS.same("promise 3: trim " + kept, mill.mill.trim(kept), kept);
      CHECKS.same("promise 3: bytes", mill.mill.count(2), kept);
      boolean isWhole = kept >= 1 && kept <= 10 || kept >= 13;
      CHECKS.same("promise 3: what is kept of it, " + kept, mill.mill.evaluate(-1), isWhole ? 0 : 1);
      if (!isWhole) {
        CHECKS.same("promise 3: its end, " + kept, mill.mill.errorAt(), kept);
      }
    }
    Mill mill = new Mill().tape("\"abcdefgh\"");
    mill.mill.trim(5);
    mill.append("\"");
    CHECKS.same("promise 3: what was cut off is gone", mill.mill.evaluate(-1), 7);
    CHECKS.same("promise 3: four bytes", mill.mill.result(), 4);
  }

  /** "It is empty behind each of these three methods, unless they throw an exception." */
  private static void emptyBehindColumn() {
    Mill mill = new Mill().tape("a");
    mill.mill.column(false);
    CHECKS.same("section 1: tape behind column", mill.mill.count(2), 0);
    mill.tape("a");
    CHECKS.fails("section 1: column", IllegalStateException.class, () -> mill.mill.column(false));
    CHECKS.same("section 1: tape behind the name of a column", mill.mill.count(2), 1);
    mill.tape("page");
    CHECKS.fails("section 1: column", IllegalArgumentException.class, () -> mill.mill.column(false));
    CHECKS.same("section 1: tape behind a keyword", mill.mill.count(2), 4);
  }

  private static void emptyBehindCompile() {
    String[] programs = {"let x = 1", "let x = ", "let x = y", "let x = -\"\"", "page 10 4 page 10 4", "let x = 1 let x = 1",
        "page 10 3"};
    for (int error = 0; error < programs.length; error++) {
      Mill mill = new Mill();
      CHECKS.same("section 1: compile", mill.compile(programs[error]), error);
      CHECKS.same("section 1: tape behind error " + error, mill.mill.count(2), 0);
    }
  }

  private static void emptyBehindEvaluate() {
    String[] expressions = {"1", "1 +", "x", "-\"\"", "\"\"", "1 / 0"};
    int[] due = {0, 1, 2, 3, 7, 8};
    for (int i = 0; i < due.length; i++) {
      Mill mill = new Mill().tape(expressions[i]);
      CHECKS.same("section 1: evaluate " + expressions[i], mill.mill.evaluate(-1), due[i]);
      CHECKS.same("section 1: tape behind " + expressions[i], mill.mill.count(2), 0);
      CHECKS.same("section 1: nothing is left of " + expressions[i], mill.append("1").mill.evaluate(-1), 0);
    }
    Mill mill = new Mill().tape("1 + 1");
    CHECKS.fails("section 1: evaluate", IndexOutOfBoundsException.class, () -> mill.mill.evaluate(0));
    CHECKS.same("section 1: tape behind no row", mill.mill.count(2), 5);
    CHECKS.same("section 1: it can be reckoned then", mill.mill.evaluate(-1), 0);
  }

  /** "The table has at most 8 columns, numbered from 0 in the order of their creation". */
  private static void atMost8Columns() {
    Mill mill = new Mill();
    String[] names = {"h", "g", "f", "e", "d", "c", "b", "a"};
    for (int i = 0; i < 8; i++) {
      mill.tape(names[i]);
      CHECKS.same("promise 4: column " + i, mill.mill.column(i == 0 || i == 7), i);
      CHECKS.same("promise 4: columns", mill.mill.count(0), i + 1);
    }
    mill.tape("i");
    CHECKS.fails("promise 4: column 8", IllegalStateException.class, () -> mill.mill.column(false));
    CHECKS.same("promise 4: columns", mill.mill.count(0), 8);
    mill.cells("p", 1, 2, 3, 4, 5, 6, "q");
    CHECKS.same("promise 4: the first and the last one", mill.value("h & a & b & g", 0), "'pq61'");
    CHECKS.same("promise 12: the last one", mill.compile("let x = len(a) + b"), 0);
    CHECKS.same("promise 12: the last one", mill.code(), "2:7 20 2:6 6 30");
  }

  /** "the tape is its name", a word of at most 8 bytes and no keyword. */
  private static void wordsOfColumns() {
    for (String name : new String[] {"a", "z", "aa", "a0", "z9", "abcdefgh", "zzzzzzzz", "a0000000", "a9999999", "pagex",
        "pag", "page1", "orders", "summar", "bottom1", "rownos"}) {
      Mill mill = new Mill().tape(name);
      CHECKS.same("promise 4: column " + name, mill.mill.column(false), 0);
      mill.cells(41);
      CHECKS.same("promise 4: cell of " + name, mill.value(name + " + 1", 0), "42");
    }
    Mill mill = new Mill().columns("a", "aa", "aaa", "aaaaaaaa", "a1").cells(1, 2, 3, 4, 5);
    CHECKS.same("promise 4: names that begin alike", mill.value("a & aa & aaa & aaaaaaaa & a1", 0), "'12345'");
  }

  /** "The program that is there is gone." */
  private static void programIsGone() {
    Mill mill = new Mill().columns("n").cells(1);
    mill.compile("group n total s = sum n band row line n end");
    mill.mill.run();
    mill.mill.clear();
    mill.columns("m");
    CHECKS.same("promise 4: code", mill.mill.codeSize(), 0);
    for (int what = 0; what < 5; what++) {
      CHECKS.same("promise 4: told " + what, mill.mill.told(what), 0);
    }
    CHECKS.same("promise 4: filled", "" + mill.mill.filled(), "0.0");
    CHECKS.fails("promise 4: taken", IndexOutOfBoundsException.class, () -> mill.mill.taken(0));
    CHECKS.fails("promise 4: total", IndexOutOfBoundsException.class, () -> mill.mill.total(0));
    CHECKS.fails("promise 4: broke", IndexOutOfBoundsException.class, () -> mill.mill.broke(0));
    CHECKS.fails("promise 4: byteAt", IndexOutOfBoundsException.class, () -> mill.mill.byteAt(1, 1, 1));
    CHECKS.fails("promise 4: run", IllegalStateException.class, mill.mill::run);
  }

  /** "It has at most 40 rows, numbered from 0." */
  private static void atMost40Rows() {
    Mill mill = new Mill().columns("n");
    for (int row = 0; row < 40; row++) {
      CHECKS.same("promise 5: row " + row, mill.mill.put(1000 + row), row + 1);
      CHECKS.same("promise 7: row " + row, mill.mill.count(1), row + 1);
    }
    CHECKS.fails("promise 5: row 40", IllegalStateException.class, () -> mill.mill.put(0));
    CHECKS.same("promise 7: 40 rows", mill.mill.count(1), 40);
    CHECKS.same("promise 8: row 0", mill.mill.cell(0, 0), 1000);
    CHECKS.same("promise 8: row 39", mill.mill.cell(39, 0), 1039);
    CHECKS.same("promise 13: row 0", mill.value("n", 0), "1000");
    CHECKS.same("promise 13: row 39", mill.value("n", 39), "1039");
    mill.compile("order down n");
    mill.mill.run();
    CHECKS.same("promise 17: 40 rows", mill.mill.told(2), 40);
    CHECKS.same("promise 21: row 39", mill.mill.taken(0), 39);
    CHECKS.same("promise 21: row 0", mill.mill.taken(39), 0);
  }

  private static void fortyRowsOfEightColumns() {
    Mill mill = new Mill().columns("a", "b", "c", "d", "e", "f", "g$", "h");
    for (int cell = 0; cell < 320; cell++) {
      CHECKS.same("promise 5: cell " + cell, mill.mill.put(cell % 8 == 6 ? '0' + cell / 8 : cell), (cell + 1) / 8);
    }
    CHECKS.fails("promise 5: cell 320", IllegalStateException.class, () -> mill.mill.put(0));
    CHECKS.same("promise 8: the first one", mill.mill.cell(0, 0), 0);
    CHECKS.same("promise 8: the last one", mill.mill.cell(39, 7), 319);
    CHECKS.same("promise 8: the last text", mill.mill.cell(39, 6), '0' + 39);
    CHECKS.same("promise 8: row 20", mill.mill.cell(20, 3), 163);
  }

  /** "a row is there as soon as all its cells are. What has been put of a row that is not there yet counts for nothing until then." */
  private static void rowsThatAreNotThereYet() {
    Mill mill = new Mill().columns("a", "b", "c").cells(1, 2, 3);
    long before = mill.mill.digest();
    for (int cell = 0; cell < 2; cell++) {
      CHECKS.same("section 1: put", mill.mill.put(4 + cell), 1);
      CHECKS.same("section 1: count", mill.mill.count(1), 1);
      CHECKS.same("section 1: digest", mill.mill.digest(), before);
      CHECKS.fails("section 1: cell", IndexOutOfBoundsException.class, () -> mill.mill.cell(1, 0));
      CHECKS.fails("section 1: evaluate", IndexOutOfBoundsException.class, () -> mill.mill.evaluate(1));
    }
    mill.compile("total s = sum a band row line a end");
    mill.mill.run();
    CHECKS.same("section 1: rows of the run", mill.mill.told(2), 1);
    CHECKS.same("section 1: total of the run", mill.mill.total(0), 1);
    CHECKS.same("section 1: the last cell of the row", mill.mill.put(6), 2);
    CHECKS.same("section 1: its first cell", mill.mill.cell(1, 0), 4);
    CHECKS.same("section 1: its second cell", mill.mill.cell(1, 1), 5);
    CHECKS.same("section 1: its last cell", mill.mill.cell(1, 2), 6);
    mill.mill.run();
    CHECKS.same("section 1: total with it", mill.mill.total(0), 5);
    Mill almost = new Mill().columns("a", "b");
    for (int cell = 0; cell < 79; cell++) {
      almost.cells(cell);
    }
    CHECKS.same("section 1: half of the 40th row", almost.mill.count(1), 39);
    CHECKS.same("section 1: the 40th row", almost.mill.put(79), 40);
  }

  private static void leastAndGreatestCells() {
    long[] numbers = {0, 1, -1, Long.MAX_VALUE, Long.MIN_VALUE, 127, 128, 255, 256, Integer.MIN_VALUE, Integer.MAX_VALUE};
    Mill mill = new Mill().columns("n");
    for (long number : numbers) {
      mill.mill.put(number);
      CHECKS.same("promise 8: " + number, mill.mill.cell(mill.mill.count(1) - 1, 0), number);
      CHECKS.same("promise 13: " + number, mill.value("n", mill.mill.count(1) - 1), "" + number);
    }
    Mill texts = new Mill().columns("t$").cells("", " ", "~", "        ", "~~~~~~~~", "\"\"\"\"\"\"\"\"");
    CHECKS.same("promise 8: an empty text", texts.mill.cell(0, 0), 0);
    CHECKS.same("promise 8: the least byte", texts.mill.cell(1, 0), 32);
    CHECKS.same("promise 8: the greatest byte", texts.mill.cell(2, 0), 126);
    CHECKS.same("promise 8: eight least bytes", texts.mill.cell(3, 0), 0x2020202020202020L);
    CHECKS.same("promise 8: eight greatest bytes", texts.mill.cell(4, 0), 0x7e7e7e7e7e7e7e7eL);
    CHECKS.same("promise 13: an empty text", texts.value("t", 0), "''");
    CHECKS.same("promise 13: the least byte", texts.value("t", 1), "' '");
    CHECKS.same("promise 13: eight least bytes", texts.value("t", 3), "'        '");
    CHECKS.same("promise 13: eight greatest bytes", texts.value("t", 4), "'~~~~~~~~'");
    CHECKS.same("promise 13: quotation marks", texts.value("t", 5), "'\"\"\"\"\"\"\"\"'");
  }

  /** "without the bytes that are 0", and "without bytes that are 0 behind its first byte". */
  private static void bytesThatAre0() {
    for (int mask = 0; mask < 256; mask++) {
      long cell = 0;
      long due = 0;
      StringBuilder text = new StringBuilder("'");
      for (int place = 0; place < 8; place++) {
        boolean isThere = (mask >> place & 1) == 1;
        cell = cell << 8 | (isThere ? 'a' + place : 0);
        due = isThere ? due << 8 | 'a' + place : due;
        text.append(isThere ? "" + (char) ('a' + place) : "");
      }
      Mill mill = new Mill().columns("t$").cells(cell);
      CHECKS.same("promise 8: bytes " + mask, mill.mill.cell(0, 0), due);
      CHECKS.same("promise 13: bytes " + mask, mill.value("t", 0), text + "'");
    }
    Mill numbers = new Mill().columns("n").cells(0x6100620000630000L);
    CHECKS.same("promise 8: a number keeps them", numbers.mill.cell(0, 0), 0x6100620000630000L);
  }

  /** "Takes all cells away. Returns how many rows there were." */
  private static void clearing() {
    Mill mill = new Mill();
    CHECKS.same("promise 6: no columns", mill.mill.clear(), 0);
    mill.columns("a", "b");
    CHECKS.same("promise 6: no rows", mill.mill.clear(), 0);
    mill.cells(1);
    CHECKS.same("promise 6: half a row", mill.mill.clear(), 0);
    mill.cells(2, 3, 4);
    CHECKS.same("promise 6: a row and a half", mill.mill.clear(), 1);
    mill.cells(5, 6);
    CHECKS.same("promise 8: a new row", mill.mill.cell(0, 0), 5);
    for (int row = 1; row < 40; row++) {
      mill.cells(row, row);
    }
    CHECKS.same("promise 6: 40 rows", mill.mill.clear(), 40);
    CHECKS.same("promise 6: none is left", mill.mill.clear(), 0);
    CHECKS.same("promise 5: the first cell again", mill.mill.put(7), 0);
    CHECKS.same("promise 5: the first row again", mill.mill.put(8), 1);
    mill.tape("abc").mill.clear();
    CHECKS.same("promise 6: the tape stays", mill.mill.count(2), 3);
    CHECKS.same("promise 6: the columns stay", mill.mill.count(0), 2);
  }

  /** "what: 0 columns, 1 rows, 2 bytes of the tape". */
  private static void counts() {
    Mill mill = new Mill().columns("a", "b", "c").cells(1, 2, 3, 4).tape("abcde");
    CHECKS.same("promise 7: 0", mill.mill.count(0), 3);
    CHECKS.same("promise 7: 1", mill.mill.count(1), 1);
    CHECKS.same("promise 7: 2", mill.mill.count(2), 5);
  }
}
