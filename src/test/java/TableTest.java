/** Promises 1 to 8: the tape and the table. */
public final class TableTest {
  private static final Checks CHECKS = new Checks();

  public static void main(String[] args) {
    newObject();
    feeding();
    trimming();
    addingColumns();
    columnNames();
    columnStates();
    puttingCells();
    clearing();
    counting();
    cells();
    CHECKS.end();
  }

  private static void newObject() {
    ReportMill mill = new ReportMill();
    for (int what = 0; what < 3; what++) {
      CHECKS.same("promise 1: count " + what, mill.count(what), 0);
    }
    for (int what = 0; what < 5; what++) {
      CHECKS.same("promise 1: told " + what, mill.told(what), 0);
    }
    CHECKS.same("promise 1: codeSize", mill.codeSize(), 0);
    CHECKS.same("promise 1: errorAt", mill.errorAt(), -1);
    CHECKS.same("promise 1: result", mill.result(), 0);
    CHECKS.same("promise 1: clear", mill.clear(), 0);
    CHECKS.fails("promise 1: size", IllegalStateException.class, () -> mill.size(true));
    CHECKS.fails("promise 1: run", IllegalStateException.class, mill::run);
    CHECKS.fails("promise 1: put", IllegalStateException.class, () -> mill.put(1));
  }

  private static void feeding() {
    ReportMill mill = new ReportMill();
    CHECKS.same("promise 2: feed", mill.feed(0x6c657420, 0x78203d20, 0x31202020, 0x20202020, 0x20202020), 20);
    CHECKS.same("promise 2: compile", mill.compile(), 0);
    CHECKS.same("promise 2: code", mill.codeSize(), 2);
    for (int i = 1; i <= 100; i++) {
      CHECKS.same("promise 2: feed " + i, mill.feed(1, 2, 3, 4, 5), 20 * i);
    }
    CHECKS.fails("promise 2: feed too much", IllegalStateException.class, () -> mill.feed(1, 2, 3, 4, 5));
    CHECKS.same("promise 2: length behind it", mill.count(2), 2000);
    mill.trim(1981);
    CHECKS.fails("promise 2: feed 19 bytes of room", IllegalStateException.class, () -> mill.feed(1, 2, 3, 4, 5));
    mill.trim(1980);
    CHECKS.same("promise 2: feed 20 bytes of room", mill.feed(1, 2, 3, 4, 5), 2000);
  }

  private static void trimming() {
    Mill mill = new Mill();
    CHECKS.same("promise 3: trim nothing", mill.mill.trim(0), 0);
    CHECKS.fails("promise 3: trim 1 of 0", IllegalArgumentException.class, () -> mill.mill.trim(1));
    mill.append("1 + 2 + 4           ");
    CHECKS.fails("promise 3: trim -1", IllegalArgumentException.class, () -> mill.mill.trim(-1));
    CHECKS.fails("promise 3: trim 21", IllegalArgumentException.class, () -> mill.mill.trim(21));
    CHECKS.same("promise 3: trim all", mill.mill.trim(20), 20);
    CHECKS.same("promise 3: trim 5", mill.mill.trim(5), 5);
    CHECKS.same("promise 3: length", mill.mill.count(2), 5);
    mill.mill.evaluate(-1);
    CHECKS.same("promise 3: result", mill.mill.result(), 3);
    mill.append("abcdefgh            ").mill.trim(2);
    mill.append("c");
    CHECKS.same("promise 3: a new byte behind", mill.mill.column(true), 0);
    mill.tape("abc");
    CHECKS.same("promise 3: the old ones", mill.mill.evaluate(-1), 7);
  }

  private static void addingColumns() {
    Mill mill = new Mill();
    for (int i = 0; i < 8; i++) {
      mill.tape("c" + i);
      CHECKS.same("promise 4: column " + i, mill.mill.column(i % 2 == 0), i);
      CHECKS.same("promise 4: tape " + i, mill.mill.count(2), 0);
    }
    CHECKS.same("promise 4: columns", mill.mill.count(0), 8);
    mill.tape("c9");
    CHECKS.fails("promise 4: a ninth", IllegalStateException.class, () -> mill.mill.column(true));
    CHECKS.same("promise 4: tape behind it", mill.mill.count(2), 2);
    mill.tape("C9");
    CHECKS.fails("promise 4: a ninth without a word", IllegalArgumentException.class, () -> mill.mill.column(true));
    CHECKS.same("promise 4: texts and numbers", mill.value("c0 & len(c2) & c1"), "'00'");
  }

  private static void columnNames() {
    String[] bad = {"", " ", "a ", " a", "1", "1a", "A", "aB", "a_b", "abcdefghi", "a b", "a\n", "a\0", "\"a\"", "\u00e1",
        "page", "order", "down", "group", "let", "total", "sum", "count", "least", "most", "first", "last", "per",
        "band", "title", "top", "bottom", "before", "row", "after", "summary", "end", "line", "at", "skip", "need",
        "eject", "keep", "if", "then", "else", "left", "right", "mid", "or", "and", "not", "len", "upper", "part",
        "text", "money", "abs", "pageno", "pages", "rowno"};
    for (String name : bad) {
      Mill mill = new Mill().tape(name);
      CHECKS.fails("promise 4: column " + name, IllegalArgumentException.class, () -> mill.mill.column(false));
      CHECKS.same("promise 4: tape of " + name, mill.mill.count(2), name.length());
      CHECKS.same("promise 4: columns of " + name, mill.mill.count(0), 0);
    }
    String[] good = {"a", "z9", "abcdefgh", "a2345678", "pagen", "rows", "orders", "pagenos", "i", "or1"};
    for (String name : good) {
      Mill mill = new Mill().tape(name);
      CHECKS.same("promise 4: column " + name, mill.mill.column(false), 0);
      CHECKS.same("promise 4: value of " + name, mill.value(name), "0");
    }
  }

  private static void columnStates() {
    Mill mill = new Mill().columns("a", "b$");
    CHECKS.same("promise 4: compile", mill.compile("let x = a"), 0);
    mill.tape("a");
    CHECKS.fails("promise 4: a name twice", IllegalStateException.class, () -> mill.mill.column(true));
    CHECKS.same("promise 4: the program is there", mill.mill.codeSize(), 2);
    mill.cells(1);
    mill.tape("c");
    CHECKS.fails("promise 4: half a row", IllegalStateException.class, () -> mill.mill.column(true));
    mill.mill.clear();
    CHECKS.same("promise 4: behind clear", mill.mill.column(true), 2);
    CHECKS.same("promise 4: the program is gone", mill.mill.codeSize(), 0);
    CHECKS.fails("promise 4: it can't be run", IllegalStateException.class, mill.mill::run);
    CHECKS.fails("promise 4: it has no size", IllegalStateException.class, () -> mill.mill.size(false));
    mill.compile("band title line \"x\" end");
    mill.mill.run();
    CHECKS.same("promise 4: a page", mill.mill.told(1), 1);
    mill.columns("d");
    CHECKS.same("promise 4: no page", mill.mill.told(1), 0);
    CHECKS.fails("promise 4: no line", IndexOutOfBoundsException.class, () -> mill.mill.lineSum(1, 1));
    mill.cells(0, "", "", 0);
    mill.tape("e");
    CHECKS.fails("promise 4: a row", IllegalStateException.class, () -> mill.mill.column(true));
    mill.tape("row");
    CHECKS.fails("promise 4: a keyword with a row", IllegalArgumentException.class, () -> mill.mill.column(true));
  }

  private static void puttingCells() {
    Mill mill = new Mill().columns("t$", "n");
    CHECKS.same("promise 5: half a row", mill.mill.put(Mill.packed("ab")), 0);
    CHECKS.same("promise 5: any number", mill.mill.put(-1), 1);
    long[] bad = {0x1fL, 0x7fL, 0x80L, 0xffL, 0x61620aL, 0x1f00000000000000L, 0x8000000000000000L, 0x6100000000000001L, -1};
    for (long cell : bad) {
      CHECKS.fails("promise 5: put " + cell, IllegalArgumentException.class, () -> mill.mill.put(cell));
    }
    CHECKS.same("promise 5: rows", mill.mill.count(1), 1);
    CHECKS.same("promise 5: least byte", mill.mill.put(0x20), 1);
    CHECKS.same("promise 5: a number", mill.mill.put(0x1f), 2);
    CHECKS.same("promise 5: greatest bytes", mill.mill.put(0x7e7e7e7e7e7e7e7eL), 2);
    CHECKS.same("promise 5: the least number", mill.mill.put(Long.MIN_VALUE), 3);
    for (int row = 4; row <= 40; row++) {
      mill.mill.put(0);
      CHECKS.same("promise 5: row " + row, mill.mill.put(row), row);
    }
    CHECKS.fails("promise 5: a row too many", IllegalStateException.class, () -> mill.mill.put(0));
    CHECKS.fails("promise 5: with a bad text", IllegalStateException.class, () -> mill.mill.put(1));
    CHECKS.same("promise 5: all rows", mill.mill.count(1), 40);
  }

  private static void clearing() {
    Mill mill = new Mill().columns("a", "b").cells(1, 2, 3, 4, 5);
    CHECKS.same("promise 6: clear", mill.mill.clear(), 2);
    CHECKS.same("promise 6: rows", mill.mill.count(1), 0);
    CHECKS.same("promise 6: columns", mill.mill.count(0), 2);
    CHECKS.same("promise 6: again", mill.mill.clear(), 0);
    CHECKS.same("promise 6: half a row is gone", mill.mill.put(7), 0);
    CHECKS.same("promise 6: a whole one", mill.mill.put(8), 1);
    CHECKS.same("promise 6: its cell", mill.mill.cell(0, 0), 7);
    mill.compile("band row line a end");
    mill.mill.clear();
    CHECKS.same("promise 6: the program stays", mill.mill.run(), 0);
  }

  private static void counting() {
    Mill mill = new Mill().columns("a", "b").cells(1, 2, 3).tape("abc");
    CHECKS.same("promise 7: columns", mill.mill.count(0), 2);
    CHECKS.same("promise 7: rows", mill.mill.count(1), 1);
    CHECKS.same("promise 7: bytes", mill.mill.count(2), 3);
    CHECKS.fails("promise 7: -1", IndexOutOfBoundsException.class, () -> mill.mill.count(-1));
    CHECKS.fails("promise 7: 3", IndexOutOfBoundsException.class, () -> mill.mill.count(3));
  }

  private static void cells() {
    Mill mill = new Mill().columns("t$", "n").cells("abc", 5, 0x6100006200630000L, -6, 0, 0, "abcdefgh");
    CHECKS.same("promise 8: a text", mill.mill.cell(0, 0), 0x616263);
    CHECKS.same("promise 8: a number", mill.mill.cell(0, 1), 5);
    CHECKS.same("promise 8: a text with zeros", mill.mill.cell(1, 0), 0x616263);
    CHECKS.same("promise 8: below 0", mill.mill.cell(1, 1), -6);
    CHECKS.same("promise 8: an empty text", mill.mill.cell(2, 0), 0);
    CHECKS.fails("promise 8: half a row", IndexOutOfBoundsException.class, () -> mill.mill.cell(3, 0));
    CHECKS.fails("promise 8: row -1", IndexOutOfBoundsException.class, () -> mill.mill.cell(-1, 0));
    CHECKS.fails("promise 8: column -1", IndexOutOfBoundsException.class, () -> mill.mill.cell(0, -1));
    CHECKS.fails("promise 8: column 2", IndexOutOfBoundsException.class, () -> mill.mill.cell(0, 2));
    mill.cells(9);
    CHECKS.same("promise 8: eight bytes", mill.mill.cell(3, 0), Mill.packed("abcdefgh"));
    CHECKS.fails("promise 8: no columns", IndexOutOfBoundsException.class, () -> new ReportMill().cell(0, 0));
  }
}
