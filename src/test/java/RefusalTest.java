import java.util.function.Consumer;
import java.util.function.Supplier;

/**
 * The sentences "Throws .. if ..", each with "A method that throws an exception changes nothing. If several
 * exceptions apply, the one that is named first is thrown."
 */
public final class RefusalTest {
  private static final Class<IllegalStateException> STATE = IllegalStateException.class;
  private static final Class<IllegalArgumentException> ARGUMENT = IllegalArgumentException.class;
  private static final Class<IndexOutOfBoundsException> INDEX = IndexOutOfBoundsException.class;
  private static final int[] FAR = {Integer.MIN_VALUE, Integer.MIN_VALUE + 1, Integer.MAX_VALUE - 1, Integer.MAX_VALUE};

  private static final Checks CHECKS = new Checks();
  private static final Refusals REFUSALS = new Refusals(CHECKS);

  public static void main(String[] args) {
    feed();
    trim();
    columnNames();
    columnStates();
    columnNamedFirst();
    putWithoutRoom();
    putBytes();
    putNamedFirst();
    count();
    cell();
    code();
    evaluate();
    resultByte();
    run();
    told();
    size();
    byteAt();
    lineSum();
    taken();
    total();
    broke();
    CHECKS.end();
  }

  private static void refused(String what, Supplier<Mill> maker, Class<? extends RuntimeException> due,
      Consumer<ReportMill> call) {
    REFUSALS.refused(what, maker, due, call);
  }

  /** A mill with two rows and half a one, a program that has run, a text that was reckoned, and a tape. */
  private static Mill busy() {
    Mill mill = new Mill().columns("n", "t$").cells(3, "ab", 4, "c", 5);
    mill.compile("page 12 5 group t group n let x = n * 2 total s = sum x total l = last t per page"
        + " band bottom line l end band row line n t x eject end");
    mill.mill.run();
    mill.value("\"xyz\"");
    return mill.tape("\"tape\" & 7");
  }

  /** The same one behind an error, so that no program is there. */
  private static Mill withoutProgram() {
    Mill mill = new Mill().columns("n", "t$").cells(3, "ab", 4, "c", 5);
    mill.value("6 * 7");
    mill.compile("let x = y");
    return mill.tape("1 + 1");
  }

  private static Mill compiled() {
    Mill mill = new Mill().columns("n", "t$").cells(3, "ab", 4, "c");
    mill.compile("page 12 5 group t total s = sum n band row line n t end");
    return mill.tape("1 + 1");
  }

  /** The columns n and t with 40 rows. */
  private static Mill full() {
    Mill mill = new Mill().columns("n", "t$");
    for (int row = 0; row < 40; row++) {
      mill.cells(row, "r");
    }
    return mill.tape("n & t");
  }

  private static Mill tapeOf(int bytes) {
    return new Mill().tape("1 +" + " ".repeat(bytes - 4) + "2");
  }

  /** IllegalStateException if there would be more than 2000. */
  private static void feed() {
    refused("promise 2: 1981 bytes", () -> tapeOf(1981), STATE, mill -> mill.feed(1, 2, 3, 4, 5));
    refused("promise 2: 1999 bytes", () -> tapeOf(1999), STATE, mill -> mill.feed(0, 0, 0, 0, 0));
    refused("promise 2: 2000 bytes", () -> tapeOf(2000), STATE, mill -> mill.feed(-1, -1, -1, -1, -1));
    CHECKS.same("promise 2: 1980 bytes", tapeOf(1980).mill.feed(1, 2, 3, 4, 5), 2000);
  }

  /** IllegalArgumentException if n is not 0 to the number of bytes of the tape. */
  private static void trim() {
    refused("promise 3: -1", RefusalTest::busy, ARGUMENT, mill -> mill.trim(-1));
    refused("promise 3: 11 of 10", RefusalTest::busy, ARGUMENT, mill -> mill.trim(11));
    refused("promise 3: 1 of 0", Mill::new, ARGUMENT, mill -> mill.trim(1));
    refused("promise 3: -1 of 0", Mill::new, ARGUMENT, mill -> mill.trim(-1));
    refused("promise 3: 2001 of 2000", () -> tapeOf(2000), ARGUMENT, mill -> mill.trim(2001));
    for (int n : FAR) {
      refused("promise 3: " + n, RefusalTest::busy, ARGUMENT, mill -> mill.trim(n));
    }
    CHECKS.same("promise 3: 10 of 10", busy().mill.trim(10), 10);
    CHECKS.same("promise 3: 0 of 10", busy().mill.trim(0), 0);
    CHECKS.same("promise 3: 0 of 0", new Mill().mill.trim(0), 0);
    CHECKS.same("promise 3: 2000 of 2000", tapeOf(2000).mill.trim(2000), 2000);
  }

  private static void badName(String name) {
    refused("promise 4: <" + name + ">", () -> {
      Mill mill = new Mill().columns("a");
      mill.compile("let x = a");
      mill.mill.run();
      return mill.tape(name);
    }, ARGUMENT, mill -> mill.column(true));
  }

  /** IllegalArgumentException if the tape is no word, or a keyword. */
  private static void columnNames() {
    for (String name : new String[] {"", " ", "1", "9a", "A", "`", "{", "aA", "a`", "a{", "a/", "a:", "a ", " a", "a\n", "a b",
        "a\0", "a\u0080", "\u00e1", "\u00ff", "(", "\"a\"", "abcdefghi", "abcdefgh ", "abcdefghij0123456789"}) {
      badName(name);
    }
    for (String keyword : Mill.KEYWORDS) {
      badName(keyword);
    }
    badName("a".repeat(2000));
    CHECKS.same("promise 4: a", new Mill().tape("a").mill.column(true), 0);
    CHECKS.same("promise 4: z", new Mill().tape("z").mill.column(true), 0);
    CHECKS.same("promise 4: az09az09", new Mill().tape("az09az09").mill.column(true), 0);
  }

  private static Mill columns(int many, String tape) {
    Mill mill = new Mill();
    for (int i = 0; i < many; i++) {
      mill.columns("c" + i);
    }
    mill.compile("let x = 1");
    mill.mill.run();
    return mill.tape(tape);
  }

  /** IllegalStateException if there are 8 columns, one with this name, or a cell that was put and not taken away. */
  private static void columnStates() {
    refused("promise 4: a ninth one", () -> columns(8, "c8"), STATE, mill -> mill.column(false));
    CHECKS.same("promise 4: an eighth one", columns(7, "c8").mill.column(false), 7);
    refused("promise 4: the first name", () -> columns(3, "c0"), STATE, mill -> mill.column(false));
    refused("promise 4: the last name", () -> columns(3, "c2"), STATE, mill -> mill.column(true));
    CHECKS.same("promise 4: a name behind it", columns(3, "c3").mill.column(false), 3);
    CHECKS.same("promise 4: the beginning of a name", columns(3, "c").mill.column(false), 3);
    CHECKS.same("promise 4: a longer name", columns(3, "c00").mill.column(false), 3);
    CHECKS.same("promise 4: the name of a let", columns(3, "x").mill.column(false), 3);
    refused("promise 4: a cell", () -> columns(3, "c3").cells(0), STATE, mill -> mill.column(false));
    refused("promise 4: a row", () -> columns(3, "c3").cells(0, 0, 0), STATE, mill -> mill.column(false));
    refused("promise 4: rows", () -> full().tape("c3"), STATE, mill -> mill.column(false));
    Mill cleared = columns(3, "c3").cells(0, 0, 0, 0);
    cleared.mill.clear();
    CHECKS.same("promise 4: cells taken away", cleared.mill.column(false), 3);
  }

  private static void columnNamedFirst() {
    refused("promise 4: no word, 8 columns", () -> columns(8, "c-8"), ARGUMENT, mill -> mill.column(false));
    refused("promise 4: no tape, 8 columns", () -> columns(8, ""), ARGUMENT, mill -> mill.column(false));
    refused("promise 4: a keyword, 8 columns", () -> columns(8, "page"), ARGUMENT, mill -> mill.column(false));
    refused("promise 4: nine bytes, a cell", () -> columns(3, "abcdefghi").cells(1), ARGUMENT, mill -> mill.column(false));
    refused("promise 4: a keyword, a row", () -> columns(1, "rowno").cells(1), ARGUMENT, mill -> mill.column(false));
  }

  /** IllegalStateException if there are no columns, or 40 rows. */
  private static void putWithoutRoom() {
    refused("promise 5: no columns", Mill::new, STATE, mill -> mill.put(0));
    refused("promise 5: no columns", () -> new Mill().tape("a"), STATE, mill -> mill.put('a'));
    refused("promise 5: 40 rows", RefusalTest::full, STATE, mill -> mill.put(0));
    Mill almost = new Mill().columns("n");
    for (int row = 0; row < 39; row++) {
      almost.cells(row);
    }
    CHECKS.same("promise 5: 39 rows", almost.mill.put(39), 40);
  }

  /** IllegalArgumentException if the cell is a text, and one of its bytes other than 0 is not 32 to 126. */
  private static void putBytes() {
    for (long bad : new long[] {1, 10, 31, 127, 128, 200, 255}) {
      for (int shift = 0; shift < 64; shift += 8) {
        long cell = 0x6161616161616161L & ~(255L << shift) | bad << shift;
        refused("promise 5: " + Long.toHexString(cell), RefusalTest::busy, ARGUMENT, mill -> mill.put(cell));
        long alone = bad << shift;
        refused("promise 5: " + Long.toHexString(alone), RefusalTest::busy, ARGUMENT, mill -> mill.put(alone));
        CHECKS.same("promise 5: a number", busy().cells("d").mill.put(cell), 3);
      }
    }
    for (long good : new long[] {0, 32, 33, 125, 126}) {
      for (int shift = 0; shift < 64; shift += 8) {
        long cell = 0x6161616161616161L & ~(255L << shift) | good << shift;
        CHECKS.same("promise 5: " + Long.toHexString(cell), busy().mill.put(cell), 3);
      }
    }
  }

  private static void putNamedFirst() {
    Supplier<Mill> fullOfTexts = () -> {
      Mill mill = new Mill().columns("t$");
      for (int row = 0; row < 40; row++) {
        mill.cells("r");
      }
      return mill;
    };
    refused("promise 5: 40 rows, and no text", fullOfTexts, STATE, mill -> mill.put(1));
    refused("promise 5: 40 rows, and no text", fullOfTexts, STATE, mill -> mill.put(-1));
  }

  /** IndexOutOfBoundsException if what is not 0 to 2. */
  private static void count() {
    refused("promise 7: -1", RefusalTest::busy, INDEX, mill -> mill.count(-1));
    refused("promise 7: 3", RefusalTest::busy, INDEX, mill -> mill.count(3));
    for (int what : FAR) {
      refused("promise 7: " + what, RefusalTest::busy, INDEX, mill -> mill.count(what));
    }
  }

  /** IndexOutOfBoundsException if there is no such row or column. */
  private static void cell() {
    int[][] bad = {{-1, 0}, {2, 0}, {2, 1}, {3, 0}, {0, -1}, {0, 2}, {1, 2}, {1, -1}, {-1, -1}, {2, 2}, {-1, 2}, {39, 0}, {40, 0}};
    for (int[] place : bad) {
      refused("promise 8: " + place[0] + " " + place[1], RefusalTest::busy, INDEX, mill -> mill.cell(place[0], place[1]));
    }
    for (int far : FAR) {
      refused("promise 8: row " + far, RefusalTest::busy, INDEX, mill -> mill.cell(far, 0));
      refused("promise 8: column " + far, RefusalTest::busy, INDEX, mill -> mill.cell(0, far));
      refused("promise 8: both " + far, RefusalTest::busy, INDEX, mill -> mill.cell(far, far));
    }
    refused("promise 8: no columns", Mill::new, INDEX, mill -> mill.cell(0, 0));
    refused("promise 8: no rows", () -> new Mill().columns("n"), INDEX, mill -> mill.cell(0, 0));
    refused("promise 8: row 40", RefusalTest::full, INDEX, mill -> mill.cell(40, 0));
    CHECKS.same("promise 8: row 39", full().mill.cell(39, 0), 39);
    CHECKS.same("promise 8: the last cell", busy().mill.cell(1, 1), 'c');
  }

  /** IndexOutOfBoundsException if there is no such instruction. */
  private static void code() {
    for (boolean isArgument : new boolean[] {false, true}) {
      refused("promise 12: no program", Mill::new, INDEX, mill -> mill.code(0, isArgument));
      refused("promise 12: no program", RefusalTest::withoutProgram, INDEX, mill -> mill.code(0, isArgument));
      refused("promise 12: -1", RefusalTest::busy, INDEX, mill -> mill.code(-1, isArgument));
      refused("promise 12: behind the end", RefusalTest::busy, INDEX, mill -> mill.code(mill.codeSize(), isArgument));
      for (int far : FAR) {
        refused("promise 12: " + far, RefusalTest::busy, INDEX, mill -> mill.code(far, isArgument));
      }
    }
    CHECKS.same("promise 12: the last one", busy().mill.code(busy().mill.codeSize() - 1, false), 30);
    CHECKS.same("promise 12: the first one", busy().mill.code(0, false), 2);
  }

  /** IndexOutOfBoundsException if row is not -1, and no row. */
  private static void evaluate() {
    refused("promise 13: -2", RefusalTest::busy, INDEX, mill -> mill.evaluate(-2));
    refused("promise 13: a row that is not there yet", RefusalTest::busy, INDEX, mill -> mill.evaluate(2));
    refused("promise 13: no rows", () -> new Mill().columns("n").tape("n"), INDEX, mill -> mill.evaluate(0));
    refused("promise 13: no columns", () -> new Mill().tape("1"), INDEX, mill -> mill.evaluate(0));
    refused("promise 13: row 40", RefusalTest::full, INDEX, mill -> mill.evaluate(40));
    refused("promise 13: an error of form, too", () -> busy().tape("1 +"), INDEX, mill -> mill.evaluate(2));
    for (int row : FAR) {
      refused("promise 13: " + row, RefusalTest::busy, INDEX, mill -> mill.evaluate(row));
    }
    CHECKS.same("promise 13: row 39", full().mill.evaluate(39), 7);
    CHECKS.same("promise 13: row 0", full().mill.evaluate(0), 7);
  }

  private static Mill reckoned(String expression) {
    Mill mill = busy();
    mill.value(expression);
    return mill;
  }

  /** IndexOutOfBoundsException if there is no such byte (it was no text, or not so long). */
  private static void resultByte() {
    refused("promise 15: never done", Mill::new, INDEX, mill -> mill.resultByte(0));
    refused("promise 15: -1", RefusalTest::busy, INDEX, mill -> mill.resultByte(-1));
    refused("promise 15: 3 of 3", RefusalTest::busy, INDEX, mill -> mill.resultByte(3));
    refused("promise 15: an empty text", () -> reckoned("\"\""), INDEX, mill -> mill.resultByte(0));
    refused("promise 15: a number", () -> reckoned("12345"), INDEX, mill -> mill.resultByte(0));
    refused("promise 15: an error of form", () -> reckoned("\"abc"), INDEX, mill -> mill.resultByte(0));
    refused("promise 15: a name without meaning", () -> reckoned("\"abc\" & nix"), INDEX, mill -> mill.resultByte(0));
    refused("promise 15: types", () -> reckoned("\"abc\" & -\"abc\""), INDEX, mill -> mill.resultByte(0));
    refused("promise 15: a division", () -> reckoned("\"abc\" & 1 / 0"), INDEX, mill -> mill.resultByte(0));
    for (int index : FAR) {
      refused("promise 15: " + index, RefusalTest::busy, INDEX, mill -> mill.resultByte(index));
    }
    CHECKS.same("promise 15: 0 of 3", busy().mill.resultByte(0), 'x');
    CHECKS.same("promise 15: 2 of 3", busy().mill.resultByte(2), 'z');
  }

  /** A mill whose program was run so often. */
  private static Mill ran(int times) {
    Mill mill = compiled();
    for (int i = 0; i < times; i++) {
      mill.mill.run();
    }
    return mill;
  }

  /** IllegalStateException if there is no program, or it was run 4 times. */
  private static void run() {
    refused("promise 16: never compiled", Mill::new, STATE, ReportMill::run);
    refused("promise 16: an error", RefusalTest::withoutProgram, STATE, ReportMill::run);
    refused("promise 16: a column more", () -> {
      Mill mill = new Mill();
      mill.compile("let x = 1");
      mill.mill.run();
      return mill.columns("n");
    }, STATE, ReportMill::run);
    refused("promise 16: a fifth run", () -> ran(4), STATE, ReportMill::run);
    CHECKS.same("promise 16: a fourth run", ran(3).mill.run(), 0);
  }

  /** IndexOutOfBoundsException if what is not 0 to 4. */
  private static void told() {
    refused("promise 17: -1", RefusalTest::busy, INDEX, mill -> mill.told(-1));
    refused("promise 17: 5", RefusalTest::busy, INDEX, mill -> mill.told(5));
    refused("promise 17: 5, new", Mill::new, INDEX, mill -> mill.told(5));
    for (int what : FAR) {
      refused("promise 17: " + what, RefusalTest::busy, INDEX, mill -> mill.told(what));
    }
    CHECKS.same("promise 17: 4", busy().mill.told(4), 0);
    CHECKS.same("promise 17: 0", busy().mill.told(0), 3);
  }

  /** IllegalStateException if there is no program. */
  private static void size() {
    for (boolean isHeight : new boolean[] {false, true}) {
      refused("promise 18: never compiled", Mill::new, STATE, mill -> mill.size(isHeight));
      refused("promise 18: an error", RefusalTest::withoutProgram, STATE, mill -> mill.size(isHeight));
    }
  }

  /** IndexOutOfBoundsException if there is no such page, line or place: 3 pages of 5 lines of 12 bytes. */
  private static void byteAt() {
    int[][] bad = {{0, 1, 1}, {4, 1, 1}, {-1, 1, 1}, {1, 0, 1}, {1, 6, 1}, {1, -1, 1}, {1, 1, 0}, {1, 1, 13}, {1, 1, -1},
        {3, 6, 1}, {3, 5, 13}, {4, 0, 0}, {0, 5, 12}, {2, 0, 12}, {2, 6, 1}, {2, 1, 0}, {0, 0, 0}, {30, 1, 1}, {31, 1, 1}};
    for (int[] place : bad) {
      refused("promise 19: " + place[0] + " " + place[1] + " " + place[2], RefusalTest::busy, INDEX,
          mill -> mill.byteAt(place[0], place[1], place[2]));
    }
    for (int far : FAR) {
      refused("promise 19: page " + far, RefusalTest::busy, INDEX, mill -> mill.byteAt(far, 1, 1));
      refused("promise 19: line " + far, RefusalTest::busy, INDEX, mill -> mill.byteAt(1, far, 1));
      refused("promise 19: place " + far, RefusalTest::busy, INDEX, mill -> mill.byteAt(1, 1, far));
    }
    refused("promise 19: new", Mill::new, INDEX, mill -> mill.byteAt(1, 1, 1));
    refused("promise 19: never run", RefusalTest::compiled, INDEX, mill -> mill.byteAt(1, 1, 1));
    refused("promise 19: no program", RefusalTest::withoutProgram, INDEX, mill -> mill.byteAt(1, 1, 1));
    CHECKS.same("promise 19: the first byte", busy().mill.byteAt(1, 1, 1), '3');
    CHECKS.same("promise 19: the last byte", busy().mill.byteAt(3, 5, 12), ' ');
  }

  /** IndexOutOfBoundsException if there is no such page or line. */
  private static void lineSum() {
    int[][] bad = {{0, 1}, {4, 1}, {-1, 1}, {1, 0}, {1, 6}, {1, -1}, {0, 5}, {3, 6}, {4, 0}, {2, 0}, {2, 6}, {0, 0}, {31, 1}};
    for (int[] line : bad) {
      refused("promise 20: " + line[0] + " " + line[1], RefusalTest::busy, INDEX, mill -> mill.lineSum(line[0], line[1]));
    }
    for (int far : FAR) {
      refused("promise 20: page " + far, RefusalTest::busy, INDEX, mill -> mill.lineSum(far, 1));
      refused("promise 20: line " + far, RefusalTest::busy, INDEX, mill -> mill.lineSum(1, far));
    }
    refused("promise 20: new", Mill::new, INDEX, mill -> mill.lineSum(1, 1));
    refused("promise 20: never run", RefusalTest::compiled, INDEX, mill -> mill.lineSum(1, 1));
    refused("promise 20: no program", RefusalTest::withoutProgram, INDEX, mill -> mill.lineSum(1, 1));
  }

  /** IndexOutOfBoundsException if not so many rows were taken. */
  private static void taken() {
    refused("promise 21: -1", RefusalTest::busy, INDEX, mill -> mill.taken(-1));
    refused("promise 21: 2 of 2", RefusalTest::busy, INDEX, mill -> mill.taken(2));
    for (int index : FAR) {
      refused("promise 21: " + index, RefusalTest::busy, INDEX, mill -> mill.taken(index));
    }
    refused("promise 21: new", Mill::new, INDEX, mill -> mill.taken(0));
    refused("promise 21: never run", RefusalTest::compiled, INDEX, mill -> mill.taken(0));
    refused("promise 21: no program", RefusalTest::withoutProgram, INDEX, mill -> mill.taken(0));
    refused("promise 21: no rows", () -> {
      Mill mill = compiled();
      mill.mill.clear();
      mill.mill.run();
      return mill;
    }, INDEX, mill -> mill.taken(0));
    refused("promise 21: stopped behind one row", () -> {
      Mill mill = compiled();
      mill.compile("band row line 1 / 0 end");
      mill.mill.run();
      return mill;
    }, INDEX, mill -> mill.taken(1));
    CHECKS.same("promise 21: 0 of 2", busy().mill.taken(0), 0);
    CHECKS.same("promise 21: 1 of 2", busy().mill.taken(1), 1);
  }

  /** IndexOutOfBoundsException if there is no program, run() was never done with it, or it has no such total. */
  private static void total() {
    refused("promise 22: -1", RefusalTest::busy, INDEX, mill -> mill.total(-1));
    refused("promise 22: 2 of 2", RefusalTest::busy, INDEX, mill -> mill.total(2));
    for (int total : FAR) {
      refused("promise 22: " + total, RefusalTest::busy, INDEX, mill -> mill.total(total));
    }
    refused("promise 22: new", Mill::new, INDEX, mill -> mill.total(0));
    refused("promise 22: never run", RefusalTest::compiled, INDEX, mill -> mill.total(0));
    refused("promise 22: no program", RefusalTest::withoutProgram, INDEX, mill -> mill.total(0));
    refused("promise 22: no totals", () -> {
      Mill mill = new Mill();
      mill.compile("let x = 1");
      mill.mill.run();
      return mill;
    }, INDEX, mill -> mill.total(0));
    refused("promise 22: run with the program before", () -> {
      Mill mill = ran(1);
      mill.compile("total s = sum 1");
      return mill;
    }, INDEX, mill -> mill.total(0));
    CHECKS.same("promise 22: 0 of 2", busy().mill.total(0), 14);
    CHECKS.same("promise 22: 1 of 2", busy().mill.total(1), 0);
  }

  /** IndexOutOfBoundsException if there is no program, run() was never done with it, or it has no such group. */
  private static void broke() {
    refused("promise 23: -1", RefusalTest::busy, INDEX, mill -> mill.broke(-1));
    refused("promise 23: 2 of 2", RefusalTest::busy, INDEX, mill -> mill.broke(2));
    for (int group : FAR) {
      refused("promise 23: " + group, RefusalTest::busy, INDEX, mill -> mill.broke(group));
    }
    refused("promise 23: new", Mill::new, INDEX, mill -> mill.broke(0));
    refused("promise 23: never run", RefusalTest::compiled, INDEX, mill -> mill.broke(0));
    refused("promise 23: no program", RefusalTest::withoutProgram, INDEX, mill -> mill.broke(0));
    refused("promise 23: no groups", () -> {
      Mill mill = new Mill();
      mill.compile("let x = 1");
      mill.mill.run();
      return mill;
    }, INDEX, mill -> mill.broke(0));
    refused("promise 23: run with the program before", () -> {
      Mill mill = ran(1);
      mill.compile("group n");
      return mill;
    }, INDEX, mill -> mill.broke(0));
    CHECKS.same("promise 23: 0 of 2", busy().mill.broke(0), 2);
    CHECKS.same("promise 23: 1 of 2", busy().mill.broke(1), 2);
  }
}
