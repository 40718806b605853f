/**
 * A mill for reports: rows of data stand in a table, a program in a small language says how they are
 * sorted, grouped, reckoned and laid out, and the mill tells what stands on the pages.
 */
public final class ReportMill {
  // The roles of tokens; the first five are the levels of operators, the loosest one first.
  private static final int OR_LEVEL = 0;
  private static final int AND_LEVEL = 1;
  private static final int RELATION_LEVEL = 2;
  private static final int SUM_LEVEL = 3;
  private static final int PRODUCT_LEVEL = 4;
  private static final int FUNCTION = 5;
  private static final int SPECIAL = 6;
  private static final int VALUE = 7;
  private static final int DECLARATION = 8;
  private static final int ITEM = 9;
  private static final int TALLY = 10;
  private static final int OTHER = 11;

  private static final int MOST_DEPTH = 12;

  private final Table table = new Table();
  private final Tape tape = new Tape();
  private final Program program = new Program();
  private final Code formula = new Code(400);
  private final Expressions expressions = new Expressions(tape, table, program);
  private final Compiler compiler = new Compiler(tape, table, program, expressions);
  private final Machine machine = new Machine(table);
  private final Paper paper = new Paper();
  private final Runner runner = new Runner(table, program, machine, paper);

  public ReportMill() {
  }

  // ---- the tape and the table

  public int feed(int a, int b, int c, int d, int e) throws IllegalStateException {
    if (tape.length + 20 > Tape.MOST_BYTES) {
      throw new IllegalStateException();
    }
    tape.append(a);
    tape.append(b);
    tape.append(c);
    tape.append(d);
    tape.append(e);
    return tape.length;
  }

  public int trim(int n) throws IllegalArgumentException {
    if (n < 0 || n > tape.length) {
      throw new IllegalArgumentException();
    }
    tape.length = n;
    return n;
  }

  public int column(boolean isText) throws IllegalArgumentException, IllegalStateException {
    long name = tape.soleName();
    if (name < 0) {
      throw new IllegalArgumentException();
    }
    if (table.columnCount >= Table.MOST_COLUMNS || table.find(name) >= 0 || table.cellCount > 0) {
      throw new IllegalStateException();
    }
    table.addColumn(name, isText);
    program.empty();
    runner.forget();
    tape.length = 0;
    return table.columnCount - 1;
  }

  public int put(long cell) throws IllegalStateException, IllegalArgumentException {
    if (table.columnCount == 0 || table.rowCount() >= Table.MOST_ROWS) {
      throw new IllegalStateException();
    }
    if (!table.fits(cell)) {
      throw new IllegalArgumentException();
    }
    table.takeCell(cell);
    return table.rowCount();
  }

  public int clear() {
    int rows = table.rowCount();
    table.cellCount = 0;
    return rows;
  }

  public int count(int what) throws IndexOutOfBoundsException {
    switch (what) {
      case 0:
        return table.columnCount;
      case 1:
        return table.rowCount();
      case 2:
        return tape.length;
      default:
        throw new IndexOutOfBoundsException();
    }
  }

  public long cell(int row, int column) throws IndexOutOfBoundsException {
    if (row < 0 || row >= table.rowCount() || column < 0 || column >= table.columnCount) {
      throw new IndexOutOfBoundsException();
    }
    return table.cellAt(row, column);
  }

  // ---- compiling

  public int compile() {
    runner.forget();
    compiler.compileTape();
    tape.length = 0;
    return tape.error;
  }

  public int errorAt() {
    return tape.errorPlace;
  }

  public int codeSize() {
    return program.code.length;
  }

  public long code(int index, boolean isArgument) throws IndexOutOfBoundsException {
    if (index < 0 || index >= program.code.length) {
      throw new IndexOutOfBoundsException();
    }
    return isArgument ? program.code.arguments[index] : program.code.operations[index];
  }

  public int evaluate(int row) throws IndexOutOfBoundsException {
    if (row < -1 || row >= table.rowCount()) {
      throw new IndexOutOfBoundsException();
    }
    machine.writeNumber(Machine.RESULT, 0);
    formula.empty();
    tape.readTokens();
    expressions.whole(formula, Expressions.EVALUATED, 0);
    if (tape.kind != Kind.TAPE_END) {
      tape.refuse();
    }
    tape.length = 0;
    if (tape.error != 0) {
      return tape.error;
    }
    machine.takeRow(row);
    machine.writeNumber(Machine.PAGENO, 0);
    machine.writeNumber(Machine.PAGES, 0);
    machine.writeNumber(Machine.ROWNO, 0);
    if (!machine.reckon(formula, 0)) {
      return 8;
    }
    machine.copy(Machine.PILE, Machine.RESULT);
    return machine.isText[Machine.RESULT] ? 7 : 0;
  }

  public long result() {
    return machine.measure(Machine.RESULT);
  }

  public int resultByte(int index) throws IndexOutOfBoundsException {
    if (index < 0 || index >= machine.lengths[Machine.RESULT]) {
      throw new IndexOutOfBoundsException();
    }
    return machine.byteOf(Machine.RESULT, index);
  }

  // ---- running

  public int run() throws IllegalStateException {
    if (!program.isThere || runner.runs >= Runner.MOST_RUNS) {
      throw new IllegalStateException();
    }
    runner.runs++;
    runner.pass(true);
    if (runner.error == 0) {
      runner.pass(false);
    }
    return runner.error;
  }

  public int told(int what) throws IndexOutOfBoundsException {
    switch (what) {
      case 0:
        return runner.firstPages;
      case 1:
        return paper.pageCount;
      case 2:
        return runner.takenRows;
      case 3:
        return runner.printedLines;
      case 4:
        return runner.error;
      default:
        throw new IndexOutOfBoundsException();
    }
  }

  public int size(boolean isHeight) throws IllegalStateException {
    if (!program.isThere) {
      throw new IllegalStateException();
    }
    return isHeight ? program.height : program.width;
  }

  public int byteAt(int page, int line, int place) throws IndexOutOfBoundsException {
    if (!paper.hasLine(page, line) || place < 1 || place > paper.width) {
      throw new IndexOutOfBoundsException();
    }
    return paper.read(page, line, place);
  }

  public long lineSum(int page, int line) throws IndexOutOfBoundsException {
    if (!paper.hasLine(page, line)) {
      throw new IndexOutOfBoundsException();
    }
    return paper.sumOf(page, line);
  }

  public int taken(int index) throws IndexOutOfBoundsException {
    if (index < 0 || index >= runner.takenRows) {
      throw new IndexOutOfBoundsException();
    }
    return runner.order[index];
  }

  public long total(int total) throws IndexOutOfBoundsException {
    if (runner.runs == 0 || total < 0 || total >= program.totals.length) {
      throw new IndexOutOfBoundsException();
    }
    return machine.measure(Machine.TOTALS + total);
  }

  public int broke(int group) throws IndexOutOfBoundsException {
    if (runner.runs == 0 || group < 0 || group >= program.groupCount) {
      throw new IndexOutOfBoundsException();
    }
    return runner.breaks[group];
  }

  public double filled() {
    return paper.share();
  }

  public long digest() {
    long d = 257;
    d = d * 31 + table.columnCount;
    d = d * 31 + table.rowCount();
    d = d * 31 + tape.length;
    for (int row = 0; row < table.rowCount(); row++) {
      for (int column = 0; column < table.columnCount; column++) {
        d = d * 31 + table.cellAt(row, column);
      }
    }
    d = d * 31 + program.code.length;
    for (int i = 0; i < program.code.length; i++) {
      d = d * 31 + program.code.operations[i];
      d = d * 31 + program.code.arguments[i];
    }
    d = d * 31 + runner.firstPages;
    d = d * 31 + paper.pageCount;
    d = d * 31 + runner.takenRows;
    d = d * 31 + runner.printedLines;
    d = d * 31 + runner.error;
    for (int page = 1; page <= paper.pageCount; page++) {
      for (int line = 1; line <= paper.height; line++) {
        d = d * 31 + paper.sumOf(page, line);
      }
    }
    return d;
  }

  /** The columns and the rows of data. */
  private static final class Table {
    static final int MOST_COLUMNS = 8;
    static final int MOST_ROWS = 40;

    int columnCount;
    // Also counts the cells of a row that is not there yet.
    int cellCount;
    final long[] names = new long[MOST_COLUMNS];
    final boolean[] texts = new boolean[MOST_COLUMNS];
    final long[] cells = new long[MOST_COLUMNS * MOST_ROWS];

    int rowCount() {
      return columnCount == 0 ? 0 : cellCount / columnCount;
    }

    /** The column with a name, or -1. */
    int find(long name) {
      for (int column = 0; column < columnCount; column++) {
        if (names[column] == name) {
          return column;
        }
      }
      return -1;
    }

    boolean isText(int column) {
      return column >= 0 && column < columnCount && texts[column];
    }

    void addColumn(long name, boolean isText) {
      if (columnCount < MOST_COLUMNS) {
        names[columnCount] = name;
        texts[columnCount] = isText;
        columnCount++;
      }
    }

    /** Whether the cell may be put next. */
    boolean fits(long cell) {
      if (columnCount == 0 || !texts[cellCount % columnCount]) {
        return true;
      }
      for (int shift = 56; shift >= 0; shift -= 8) {
        int b = (int) (cell >>> shift) & 255;
        if (b != 0 && (b < 32 || b > 126)) {
          return false;
        }
      }
      return true;
    }

    void takeCell(long cell) {
      if (columnCount > 0 && cellCount < cells.length) {
        cells[cellCount] = texts[cellCount % columnCount] ? withoutZeros(cell) : cell;
        cellCount++;
      }
    }

    /** The cell of a row, 0 if there is no such row. */
    long cellAt(int row, int column) {
      if (row < 0 || row >= MOST_ROWS || column < 0 || column >= columnCount) {
        return 0;
      }
      return cells[row * columnCount + column];
    }

    int compareRows(int row, int other, int column) {
      long a = cellAt(row, column);
      long b = cellAt(other, column);
      return isText(column) ? Long.compare(toTheLeft(a), toTheLeft(b)) : Long.compare(a, b);
    }

    private static long withoutZeros(long cell) {
      long text = 0;
      for (int shift = 56; shift >= 0; shift -= 8) {
        long b = (cell >>> shift) & 255;
        if (b != 0) {
          text = text << 8 | b;
        }
      }
      return text;
    }

    /** Puts the first byte of a text highest, so that texts are ordered as their numbers are. */
    private static long toTheLeft(long text) {
      for (int i = 0; i < 7 && text >>> 56 == 0; i++) {
        text <<= 8;
      }
      return text;
    }
  }

  /** The kinds of tokens. */
  private enum Kind {
    PAGE("page", DECLARATION, 0),
    ORDER("order", DECLARATION, 0),
    DOWN("down", OTHER, 0),
    GROUP("group", DECLARATION, 0),
    LET("let", DECLARATION, 0),
    TOTAL("total", DECLARATION, 0),
    SUM("sum", TALLY, 0),
    COUNT("count", TALLY, 0),
    LEAST("least", FUNCTION, Code.LEAST),
    MOST("most", FUNCTION, Code.MOST),
    FIRST("first", TALLY, 0),
    LAST("last", TALLY, 0),
    PER("per", OTHER, 0),
    BAND("band", OTHER, 0),
    TITLE("title", OTHER, 0),
    TOP("top", OTHER, 0),
    BOTTOM("bottom", OTHER, 0),
    BEFORE("before", OTHER, 0),
    ROW("row", OTHER, 0),
    AFTER("after", OTHER, 0),
    SUMMARY("summary", OTHER, 0),
    END("end", OTHER, 0),
    LINE("line", ITEM, 0),
    AT("at", OTHER, 0),
    SKIP("skip", ITEM, 0),
    NEED("need", ITEM, 0),
    EJECT("eject", ITEM, 0),
    KEEP("keep", ITEM, 0),
    IF("if", ITEM, 0),
    THEN("then", OTHER, 0),
    ELSE("else", OTHER, 0),
    LEFT("left", OTHER, 0),
    RIGHT("right", OTHER, 0),
    MID("mid", OTHER, 0),
    OR("or", OR_LEVEL, 0),
    AND("and", AND_LEVEL, 0),
    NOT("not", VALUE, Code.NOT),
    LEN("len", FUNCTION, Code.LEN),
    UPPER("upper", FUNCTION, Code.UPPER),
    PART("part", FUNCTION, Code.PART),
    TEXT("text", FUNCTION, Code.STR),
    MONEY("money", FUNCTION, Code.MONEY),
    ABS("abs", FUNCTION, Code.ABS),
    PAGENO("pageno", SPECIAL, 0),
    PAGES("pages", SPECIAL, 1),
    ROWNO("rowno", SPECIAL, 2),
    OPEN("(", VALUE, 0),
    CLOSE(")", OTHER, 0),
    COMMA(",", OTHER, 0),
    COLON(":", OTHER, 0),
    EQUAL("=", RELATION_LEVEL, Code.EQ),
    PLUS("+", SUM_LEVEL, Code.ADD),
    MINUS("-", SUM_LEVEL, Code.SUB),
    TIMES("*", PRODUCT_LEVEL, Code.MUL),
    OVER("/", PRODUCT_LEVEL, Code.DIV),
    REST("%", PRODUCT_LEVEL, Code.MOD),
    JOIN("&", SUM_LEVEL, Code.JOIN),
    LESS("<", RELATION_LEVEL, Code.LT),
    GREATER(">", RELATION_LEVEL, Code.GT),
    AT_MOST("<=", RELATION_LEVEL, Code.LE),
    AT_LEAST(">=", RELATION_LEVEL, Code.GE),
    UNEQUAL("<>", RELATION_LEVEL, Code.NE),
    NAME("", VALUE, 0),
    NUMBER("", VALUE, 0),
    QUOTE("", VALUE, 0),
    TAPE_END("", OTHER, 0),
    WRONG("", OTHER, 0);

    private static final Kind[] ALL = values();

    // The bytes of a keyword or symbol as one number; -1 where no bytes are fixed.
    final long word;
    final int role;
    // The instruction of an operator or function, or the number of a special value.
    final int number;

    Kind(String text, int role, int number) {
      this.word = pack(text);
      this.role = role;
      this.number = number;
    }

    private static long pack(String text) {
      long word = text.isEmpty() ? -1 : 0;
      for (int i = 0; i < text.length(); i++) {
        word = word << 8 | text.charAt(i);
      }
      return word;
    }

    /** The keyword or symbol with these bytes, or NAME. */
    static Kind find(long word) {
      for (Kind kind : ALL) {
        if (kind.word == word) {
          return kind;
        }
      }
      return NAME;
    }

    boolean beginsExpression() {
      return role == VALUE || role == FUNCTION || role == SPECIAL || this == MINUS;
    }

    boolean isTally() {
      return role == TALLY || this == LEAST || this == MOST;
    }
  }

  /** The tape, its tokens, and the error that was found in them. */
  private static final class Tape {
    static final int MOST_BYTES = 2000;
    static final int MOST_WORD = 8;
    static final int MOST_DIGITS = 9;
    static final int MOST_QUOTE = 20;
    static final int UNLIMITED = 1000000;

    final byte[] bytes = new byte[MOST_BYTES];
    int length;

    private final Kind[] kinds = new Kind[MOST_BYTES + 1];
    private final int[] starts = new int[MOST_BYTES + 1];
    private final long[] values = new long[MOST_BYTES + 1];
    private int tokenCount;
    private int index;
    // How many tokens can still be taken.
    int room;

    // The token that is looked at; its value is a name's bytes, a number, or the length of a text.
    Kind kind = Kind.TAPE_END;
    int start;
    long value;

    int error;
    int errorPlace = -1;

    void append(int number) {
      for (int shift = 24; shift >= 0; shift -= 8) {
        if (length < MOST_BYTES) {
          bytes[length] = (byte) (number >>> shift);
          length++;
        }
      }
    }

    int look(int at) {
      return at >= 0 && at < length && at < MOST_BYTES ? bytes[at] & 255 : 0;
    }

    /** The name that is all of the tape, or -1. */
    long soleName() {
      if (length > MOST_WORD || !isLetter(look(0))) {
        return -1;
      }
      long word = 0;
      for (int at = 0; at < length; at++) {
        int b = look(at);
        if (!isLetter(b) && !isDigit(b)) {
          return -1;
        }
        word = word << 8 | b;
      }
      return Kind.find(word) == Kind.NAME ? word : -1;
    }

    /** Reads all tokens, looks at the first one, and forgets the error. */
    void readTokens() {
      error = 0;
      errorPlace = -1;
      tokenCount = 0;
      int at = 0;
      for (int steps = 0; steps < MOST_BYTES && at < length; steps++) {
        int b = look(at);
        at = b == ' ' || b == '\n' ? at + 1 : readToken(at, b);
      }
      addToken(Kind.TAPE_END, length, 0);
      room = UNLIMITED;
      index = 0;
      kind = kinds[0];
      start = starts[0];
      value = values[0];
    }

    /** Takes the token and looks at the next one; a token without room becomes a wrong one, and stays. */
    void next() {
      if (kind == Kind.WRONG) {
        return;
      }
      if (room <= 0) {
        kind = Kind.WRONG;
      } else if (index + 1 < tokenCount && index + 1 < kinds.length) {
        room--;
        index++;
        kind = kinds[index];
        start = starts[index];
        value = values[index];
      }
    }

    /** An error of form at the token, which becomes a wrong one, so that nothing reads on. */
    void refuse() {
      if (error != 1) {
        error = 1;
        errorPlace = start;
      }
      kind = Kind.WRONG;
    }

    /** An error of meaning; only the first one counts. */
    void wrong(int number, int place) {
      if (error == 0) {
        error = number;
        errorPlace = place;
      }
    }

    private int readToken(int at, int first) {
      if (isLetter(first)) {
        return readWord(at);
      }
      if (isDigit(first)) {
        return readNumber(at);
      }
      return first == '"' ? readQuote(at) : readSymbol(at, first);
    }

    private int readWord(int at) {
      long word = 0;
      int end = at;
      for (; end < length && (isLetter(look(end)) || isDigit(look(end))); end++) {
        word = word << 8 | look(end);
      }
      if (end - at > MOST_WORD) {
        return readWrong(at);
      }
      addToken(Kind.find(word), at, word);
      return end;
    }

    private int readNumber(int at) {
      long number = 0;
      int end = at;
      for (; end < length && isDigit(look(end)); end++) {
        number = number * 10 + look(end) - '0';
      }
      if (end - at > MOST_DIGITS) {
        return readWrong(at);
      }
      addToken(Kind.NUMBER, at, number);
      return end;
    }

    private int readQuote(int at) {
      int end = at + 1;
      for (; end < length && look(end) >= 32 && look(end) <= 126 && look(end) != '"'; end++) {
        if (end - at > MOST_QUOTE) {
          return readWrong(at);
        }
      }
      if (look(end) != '"') {
        return readWrong(at);
      }
      addToken(Kind.QUOTE, at, end - at - 1);
      return end + 1;
    }

    private int readSymbol(int at, int first) {
      if (first == '<' || first == '>') {
        Kind pair = Kind.find((long) first << 8 | look(at + 1));
        if (pair != Kind.NAME) {
          addToken(pair, at, 0);
          return at + 2;
        }
      }
      Kind symbol = Kind.find(first);
      if (symbol == Kind.NAME) {
        return readWrong(at);
      }
      addToken(symbol, at, 0);
      return at + 1;
    }

    /** Nothing behind a wrong token will be looked at. */
    private int readWrong(int at) {
      addToken(Kind.WRONG, at, 0);
      return length;
    }

    private void addToken(Kind newKind, int newStart, long newValue) {
      if (tokenCount < kinds.length) {
        kinds[tokenCount] = newKind;
        starts[tokenCount] = newStart;
        values[tokenCount] = newValue;
        tokenCount++;
      }
    }

    private static boolean isLetter(int b) {
      return b >= 'a' && b <= 'z';
    }

    private static boolean isDigit(int b) {
      return b >= '0' && b <= '9';
    }
  }

  /** A row of instructions, and the texts that they name. */
  private static final class Code {
    static final int NUMBER = 0;
    static final int TEXT = 1;
    static final int COLUMN = 2;
    static final int LET = 3;
    static final int TOTAL = 4;
    static final int SPECIAL = 5;
    static final int ADD = 6;
    static final int SUB = 7;
    static final int MUL = 8;
    static final int DIV = 9;
    static final int MOD = 10;
    static final int JOIN = 11;
    static final int EQ = 12;
    static final int NE = 13;
    static final int LT = 14;
    static final int GT = 15;
    static final int LE = 16;
    static final int GE = 17;
    static final int NOT = 18;
    static final int NEG = 19;
    static final int LEN = 20;
    static final int UPPER = 21;
    static final int PART = 22;
    static final int STR = 23;
    static final int MONEY = 24;
    static final int ABS = 25;
    static final int LEAST = 26;
    static final int MOST = 27;
    static final int JUMP = 28;
    static final int SKIP = 29;
    static final int DONE = 30;

    // A byte of the tape makes two instructions at most.
    static final int MOST_INSTRUCTIONS = 2 * Tape.MOST_BYTES;
    static final int MOST_TEXTS = Tape.MOST_BYTES / 2;

    final int[] operations;
    final long[] arguments;
    int length;

    final byte[] textBytes = new byte[Tape.MOST_BYTES];
    // Text k reaches from here to where text k + 1 begins.
    final int[] textStarts = new int[MOST_TEXTS + 1];
    int textCount;

    Code(int most) {
      operations = new int[Math.max(0, most)];
      arguments = new long[Math.max(0, most)];
    }

    void empty() {
      length = 0;
      textCount = 0;
    }

    /** Appends an instruction and tells its number. */
    int add(int operation, long argument) {
      int index = length;
      if (index >= 0 && index < operations.length && index < arguments.length) {
        operations[index] = operation;
        arguments[index] = argument;
        length++;
      }
      return index;
    }

    /** Lets a jump lead to what will be appended next. */
    void aim(int index) {
      if (index >= 0 && index < length) {
        arguments[index] = length;
      }
    }

    /** The argument of the instruction so many ahead of the end. */
    long argumentBack(int back) {
      return back > 0 && back <= length ? arguments[length - back] : 0;
    }

    /** Puts one number in the place of the last instructions. */
    void replaceLast(int many, long number) {
      if (many > 0 && many <= length) {
        length -= many;
        operations[length] = NUMBER;
        arguments[length] = number;
        length++;
      }
    }

    /** Keeps a text of the tape and tells its number. */
    int addText(Tape tape, int from, long bytes) {
      int text = textCount;
      if (text >= MOST_TEXTS) {
        return text;
      }
      int end = textStarts[text];
      for (int i = 0; i < bytes && end < textBytes.length; i++) {
        textBytes[end] = (byte) tape.look(from + i);
        end++;
      }
      textCount++;
      textStarts[textCount] = end;
      return text;
    }
  }

  /** Lets or totals, numbered in the order of their declarations. */
  private static final class Definitions {
    static final int MOST = 8;

    int length;
    final long[] names = new long[MOST];
    final boolean[] texts = new boolean[MOST];
    final int[] starts = new int[MOST];
    // How a total takes values in, and for how long.
    final Kind[] tallies = new Kind[MOST];
    final int[] scopes = new int[MOST];

    boolean isFull() {
      return length >= MOST;
    }

    void add(long name, boolean isText, int start, Kind tally, int scope) {
      if (length < MOST) {
        names[length] = name;
        texts[length] = isText;
        starts[length] = start;
        tallies[length] = tally;
        scopes[length] = scope;
        length++;
      }
    }

    /** The number of the definition with a name, or -1. */
    int find(long name) {
      for (int i = 0; i < length; i++) {
        if (names[i] == name) {
          return i;
        }
      }
      return -1;
    }
  }

  /** What was compiled. */
  private static final class Program {
    static final int MOST_ORDERS = 4;
    static final int MOST_GROUPS = 3;
    static final int MOST_ITEMS = Tape.MOST_BYTES;

    // The bands; those after groups stand with the innermost group first.
    static final int TITLE = 0;
    static final int TOP = 1;
    static final int BOTTOM = 2;
    static final int ROW = 3;
    static final int SUMMARY = 4;
    static final int BEFORE_OUTERMOST = 5;
    static final int AFTER_OUTERMOST = 10;
    static final int BANDS = 11;

    // How long a total goes on, if not as long as a group with this number.
    static final int PER_PAGE = -1;
    static final int PER_RUN = -2;

    boolean isThere;
    boolean hasPage;
    int width;
    int height;
    int orderCount;
    final int[] orders = new int[MOST_ORDERS];
    final boolean[] downs = new boolean[MOST_ORDERS];
    int groupCount;
    final int[] groups = new int[MOST_GROUPS];
    final Definitions lets = new Definitions();
    final Definitions totals = new Definitions();
    final Code code = new Code(Code.MOST_INSTRUCTIONS);
    final int[] bands = new int[BANDS];

    // The items and the pieces of lines, each one ahead of those within it, which reach to its end.
    int itemCount;
    final Kind[] itemKinds = new Kind[MOST_ITEMS];
    final int[] itemNumbers = new int[MOST_ITEMS];
    final int[] itemCodes = new int[MOST_ITEMS];
    final int[] itemEnds = new int[MOST_ITEMS];

    void empty() {
      isThere = false;
      hasPage = false;
      width = 40;
      height = 20;
      orderCount = 0;
      groupCount = 0;
      lets.length = 0;
      totals.length = 0;
      code.empty();
      itemCount = 0;
      for (int band = 0; band < BANDS; band++) {
        bands[band] = -1;
      }
    }

    /** Appends an item and tells its number. */
    int addItem(Kind kind, int number, int start) {
      int item = itemCount;
      if (item < MOST_ITEMS) {
        itemKinds[item] = kind;
        itemNumbers[item] = number;
        itemCodes[item] = start;
        itemCount++;
        itemEnds[item] = itemCount;
      }
      return item;
    }

    void endItem(int item) {
      if (item >= 0 && item < itemCount) {
        itemEnds[item] = itemCount;
      }
    }

    void setKind(int item, Kind kind) {
      if (item >= 0 && item < itemCount) {
        itemKinds[item] = kind;
      }
    }

    void setCode(int item, int start) {
      if (item >= 0 && item < itemCount) {
        itemCodes[item] = start;
      }
    }

    void setNumber(int item, int number) {
      if (item >= 0 && item < itemCount) {
        itemNumbers[item] = number;
      }
    }

    boolean hasBand(int band) {
      return band >= 0 && band < BANDS && bands[band] >= 0 && bands[band] < itemCount;
    }

    void setBand(int band, int item) {
      if (band >= 0 && band < BANDS) {
        bands[band] = item;
      }
    }

    /** The first item within a band, at its end if it has none. */
    int firstOf(int band) {
      return hasBand(band) ? bands[band] + 1 : 0;
    }

    int endOf(int band) {
      return hasBand(band) ? itemEnds[bands[band]] : 0;
    }

    /** The number of a group's column, -1 if it is none of a group. */
    int findGroup(int column) {
      for (int group = 0; group < groupCount; group++) {
        if (groups[group] == column) {
          return group;
        }
      }
      return -1;
    }

    /** The lines that the band top or bottom takes. */
    int heightOf(int band) {
      int lines = 0;
      int item = firstOf(band);
      int end = endOf(band);
      for (int steps = 0; steps < MOST_ITEMS && item < end && item < itemCount; steps++) {
        lines += itemKinds[item] == Kind.SKIP ? itemNumbers[item] : 1;
        item = itemEnds[item];
      }
      return lines;
    }
  }

  /** Compiles expressions, with the types and the simplifying. */
  private static final class Expressions {
    // Where an expression stands tells which names it can use.
    static final int EVALUATED = 0;
    static final int DECLARED = 1;
    static final int PRINTED = 2;

    private static final int MOST_TOKENS = 100;

    // What an expression is; a constant is a number, and one NUMBER is all of its code.
    private static final int IS_NUMBER = 0;
    private static final int IS_TEXT = 1;
    private static final int IS_CONSTANT = 2;

    private final Tape tape;
    private final Table table;
    private final Program program;
    private Code code;
    private int where;

    Expressions(Tape tape, Table table, Program program) {
      this.tape = tape;
      this.table = table;
      this.program = program;
      this.code = program.code;
    }

    /** Compiles an expression and tells whether it is a text. */
    boolean whole(Code target, int place, int depth) {
      code = target;
      where = place;
      tape.room = MOST_TOKENS;
      int type = operators(OR_LEVEL, depth);
      tape.room = Tape.UNLIMITED;
      code.add(Code.DONE, 0);
      return type == IS_TEXT;
    }

    private int operators(int level, int depth) {
      if (level > PRODUCT_LEVEL) {
        return factor(depth);
      }
      int left = operators(level + 1, depth);
      int most = level == RELATION_LEVEL ? 1 : MOST_TOKENS;
      for (int i = 0; i < most && tape.kind.role == level; i++) {
        if (level == OR_LEVEL) {
          left = either(left, depth);
        } else if (level == AND_LEVEL) {
          left = both(left, depth);
        } else {
          left = operation(level, left, depth);
        }
      }
      return left;
    }

    private int either(int left, int depth) {
      int at = tape.start;
      tape.next();
      int skip = code.add(Code.SKIP, 0);
      code.add(Code.NUMBER, 1);
      int jump = code.add(Code.JUMP, 0);
      code.aim(skip);
      int right = operators(OR_LEVEL + 1, depth);
      code.add(Code.NOT, 0);
      code.add(Code.NOT, 0);
      code.aim(jump);
      return wantNumbers(left, right, at);
    }

    private int both(int left, int depth) {
      int at = tape.start;
      tape.next();
      int skip = code.add(Code.SKIP, 0);
      int right = operators(AND_LEVEL + 1, depth);
      int secondSkip = code.add(Code.SKIP, 0);
      code.add(Code.NUMBER, 1);
      int jump = code.add(Code.JUMP, 0);
      code.aim(skip);
      code.aim(secondSkip);
      code.add(Code.NUMBER, 0);
      code.aim(jump);
      return wantNumbers(left, right, at);
    }

    private int operation(int level, int left, int depth) {
      Kind kind = tape.kind;
      int at = tape.start;
      tape.next();
      if (kind == Kind.JOIN) {
        wantText(left);
      }
      int right = operators(level + 1, depth);
      if (kind == Kind.JOIN) {
        wantText(right);
        code.add(Code.JOIN, 0);
        return IS_TEXT;
      }
      if (level != RELATION_LEVEL || left != IS_TEXT || right != IS_TEXT) {
        wantNumbers(left, right, at);
      }
      return combine(kind.number, left, right);
    }

    private int factor(int depth) {
      int at = tape.start;
      long value = tape.value;
      switch (tape.kind) {
        case NUMBER:
          tape.next();
          code.add(Code.NUMBER, value);
          return IS_CONSTANT;
        case QUOTE:
          tape.next();
          code.add(Code.TEXT, code.addText(tape, at + 1, value));
          return IS_TEXT;
        case NAME:
          tape.next();
          return name(value, at);
        case MINUS:
          return inFront(Code.NEG, depth);
        case NOT:
          return inFront(Code.NOT, depth);
        case OPEN:
          return inParentheses(depth);
        default:
          if (tape.kind.role == FUNCTION) {
            return function(depth);
          }
          if (tape.kind.role == SPECIAL) {
            return special(tape.kind);
          }
          tape.refuse();
          return IS_NUMBER;
      }
    }

    private int special(Kind kind) {
      if (where == DECLARED && kind != Kind.ROWNO) {
        tape.wrong(2, tape.start);
      }
      tape.next();
      code.add(Code.SPECIAL, kind.number);
      return IS_NUMBER;
    }

    private int name(long name, int at) {
      int column = table.find(name);
      if (column >= 0) {
        code.add(Code.COLUMN, column);
        return table.isText(column) ? IS_TEXT : IS_NUMBER;
      }
      int let = where == EVALUATED ? -1 : program.lets.find(name);
      if (let >= 0) {
        code.add(Code.LET, let);
        return program.lets.texts[let] ? IS_TEXT : IS_NUMBER;
      }
      int total = where == PRINTED ? program.totals.find(name) : -1;
      if (total >= 0) {
        code.add(Code.TOTAL, total);
        return program.totals.texts[total] ? IS_TEXT : IS_NUMBER;
      }
      tape.wrong(2, at);
      return IS_NUMBER;
    }

    private int inFront(int operation, int depth) {
      int at = tape.start;
      if (!opens(depth)) {
        return IS_NUMBER;
      }
      int type = factor(depth + 1);
      if (type == IS_CONSTANT) {
        long number = code.argumentBack(1);
        code.replaceLast(1, Machine.calculate(operation, number, number));
        return IS_CONSTANT;
      }
      code.add(operation, 0);
      return wantNumbers(type, IS_NUMBER, at);
    }

    private int inParentheses(int depth) {
      if (!opens(depth)) {
        return IS_NUMBER;
      }
      int type = operators(OR_LEVEL, depth + 1);
      close();
      return type;
    }

    private int function(int depth) {
      Kind kind = tape.kind;
      int at = tape.start;
      tape.next();
      if (tape.kind != Kind.OPEN) {
        tape.refuse();
      }
      if (!opens(depth)) {
        return IS_NUMBER;
      }
      boolean takesText = kind == Kind.LEN || kind == Kind.UPPER || kind == Kind.PART;
      boolean fits = true;
      int arguments = 0;
      for (boolean goesOn = true; goesOn && arguments < MOST_TOKENS;) {
        int type = operators(OR_LEVEL, depth + 1);
        fits = fits && (type == IS_TEXT) == (takesText && arguments == 0);
        arguments++;
        goesOn = tape.kind == Kind.COMMA;
        if (goesOn) {
          tape.next();
        }
      }
      close();
      if (!fits || arguments != arity(kind)) {
        tape.wrong(3, at);
      }
      code.add(kind.number, 0);
      boolean makesText = kind == Kind.UPPER || kind == Kind.PART || kind == Kind.TEXT || kind == Kind.MONEY;
      return makesText ? IS_TEXT : IS_NUMBER;
    }

    private static int arity(Kind kind) {
      if (kind == Kind.PART) {
        return 3;
      }
      return kind == Kind.LEAST || kind == Kind.MOST ? 2 : 1;
    }

    /** Appends an operator, or reckons it at once if both operands are constants. */
    private int combine(int operation, int left, int right) {
      long a = code.argumentBack(2);
      long b = code.argumentBack(1);
      boolean divides = operation == Code.DIV || operation == Code.MOD;
      if (left != IS_CONSTANT || right != IS_CONSTANT || divides && b == 0) {
        code.add(operation, 0);
        return IS_NUMBER;
      }
      code.replaceLast(2, Machine.calculate(operation, a, b));
      return IS_CONSTANT;
    }

    private void wantText(int type) {
      if (type != IS_TEXT) {
        code.add(Code.STR, 0);
      }
    }

    private int wantNumbers(int left, int right, int at) {
      if (left == IS_TEXT || right == IS_TEXT) {
        tape.wrong(3, at);
      }
      return IS_NUMBER;
    }

    /** Takes a token behind which the depth is one greater; false if nothing can stand behind it. */
    private boolean opens(int depth) {
      if (depth >= MOST_DEPTH) {
        tape.refuse();
      } else {
        tape.next();
      }
      return tape.kind != Kind.WRONG;
    }

    private void close() {
      if (tape.kind == Kind.CLOSE) {
        tape.next();
      } else {
        tape.refuse();
      }
    }
  }

  /** Compiles the tape as a program. */
  private static final class Compiler {
    private static final int MOST_LINES = 40;
    private static final int MOST_FIELD = 60;

    private final Tape tape;
    private final Table table;
    private final Program program;
    private final Expressions expressions;

    Compiler(Tape tape, Table table, Program program, Expressions expressions) {
      this.tape = tape;
      this.table = table;
      this.program = program;
      this.expressions = expressions;
    }

    void compileTape() {
      program.empty();
      tape.readTokens();
      for (int i = 0; i < Tape.MOST_BYTES && tape.kind.role == DECLARATION; i++) {
        declaration();
      }
      for (int i = 0; i < Tape.MOST_BYTES && tape.kind == Kind.BAND; i++) {
        int item = program.addItem(Kind.BAND, 0, 0);
        int band = bandHead(item);
        items(0, band != Program.TOP && band != Program.BOTTOM);
        expect(Kind.END);
        program.endItem(item);
      }
      if (tape.kind != Kind.TAPE_END) {
        tape.refuse();
      }
      if (program.heightOf(Program.TOP) + program.heightOf(Program.BOTTOM) >= program.height) {
        tape.wrong(6, tape.length);
      }
      if (tape.error == 0) {
        program.isThere = true;
      } else {
        program.empty();
      }
    }

    private void declaration() {
      switch (tape.kind) {
        case PAGE:
          page();
          break;
        case ORDER:
          order();
          break;
        case GROUP:
          group();
          break;
        case LET:
          let();
          break;
        default:
          tally();
          break;
      }
    }

    private void page() {
      if (program.hasPage) {
        tape.wrong(4, tape.start);
      }
      tape.next();
      program.hasPage = true;
      program.width = number(10, 60);
      program.height = number(4, 40);
    }

    private void order() {
      if (program.orderCount >= Program.MOST_ORDERS) {
        tape.wrong(4, tape.start);
      }
      tape.next();
      boolean isDown = tape.kind == Kind.DOWN;
      if (isDown) {
        tape.next();
      }
      int column = columnName();
      if (program.orderCount < Program.MOST_ORDERS) {
        program.orders[program.orderCount] = column;
        program.downs[program.orderCount] = isDown;
        program.orderCount++;
      }
    }

    private void group() {
      if (program.groupCount >= Program.MOST_GROUPS) {
        tape.wrong(4, tape.start);
      }
      tape.next();
      int at = tape.start;
      int column = columnName();
      if (program.findGroup(column) >= 0) {
        tape.wrong(5, at);
      }
      if (program.groupCount < Program.MOST_GROUPS) {
        program.groups[program.groupCount] = column;
        program.groupCount++;
      }
    }

    private void let() {
      if (program.lets.isFull()) {
        tape.wrong(4, tape.start);
      }
      tape.next();
      long name = newName();
      expect(Kind.EQUAL);
      int start = program.code.length;
      boolean isText = expressions.whole(program.code, Expressions.DECLARED, 0);
      program.lets.add(name, isText, start, Kind.LET, Program.PER_RUN);
    }

    private void tally() {
      if (program.totals.isFull()) {
        tape.wrong(4, tape.start);
      }
      tape.next();
      long name = newName();
      expect(Kind.EQUAL);
      Kind kind = tape.kind;
      int at = tape.start;
      if (kind.isTally()) {
        tape.next();
      } else {
        tape.refuse();
      }
      int start = program.code.length;
      boolean isText = expressions.whole(program.code, Expressions.DECLARED, 0);
      if (kind == Kind.SUM && isText) {
        tape.wrong(3, at);
      }
      int scope = Program.PER_RUN;
      if (tape.kind == Kind.PER) {
        tape.next();
        scope = scope();
      }
      program.totals.add(name, isText && kind != Kind.COUNT, start, kind, scope);
    }

    private int scope() {
      if (tape.kind != Kind.PAGE) {
        return groupName();
      }
      tape.next();
      return Program.PER_PAGE;
    }

    /** Reads what is ahead of a band's items and tells which band it is, or -1. */
    private int bandHead(int item) {
      int at = tape.start;
      tape.next();
      Kind kind = tape.kind;
      int band = bandOf(kind);
      if (band < 0) {
        tape.refuse();
        return -1;
      }
      tape.next();
      if (kind == Kind.BEFORE || kind == Kind.AFTER) {
        int group = groupName();
        if (group < 0) {
          return -1;
        }
        band = kind == Kind.BEFORE ? band + group : band - group;
      }
      if (program.hasBand(band)) {
        tape.wrong(4, at);
      }
      program.setBand(band, item);
      return band;
    }

    private static int bandOf(Kind kind) {
      switch (kind) {
        case TITLE:
          return Program.TITLE;
        case TOP:
          return Program.TOP;
        case BOTTOM:
          return Program.BOTTOM;
        case ROW:
          return Program.ROW;
        case SUMMARY:
          return Program.SUMMARY;
        case BEFORE:
          return Program.BEFORE_OUTERMOST;
        case AFTER:
          return Program.AFTER_OUTERMOST;
        default:
          return -1;
      }
    }

    private void items(int depth, boolean isBody) {
      for (int i = 0; i < Tape.MOST_BYTES && tape.kind.role == ITEM; i++) {
        Kind kind = tape.kind;
        if (!isBody && kind != Kind.LINE && kind != Kind.SKIP) {
          tape.wrong(6, tape.start);
        }
        int item = program.addItem(kind, 0, 0);
        switch (kind) {
          case LINE:
            line(depth);
            break;
          case SKIP:
          case NEED:
            tape.next();
            program.setNumber(item, number(1, MOST_LINES));
            break;
          case KEEP:
            keep(depth, isBody);
            break;
          case IF:
            choice(item, depth, isBody);
            break;
          default:
            tape.next();
            break;
        }
        program.endItem(item);
      }
    }

    private void keep(int depth, boolean isBody) {
      if (depth >= MOST_DEPTH) {
        tape.refuse();
        return;
      }
      tape.next();
      items(depth + 1, isBody);
      expect(Kind.END);
    }

    private void choice(int item, int depth, boolean isBody) {
      if (depth >= MOST_DEPTH) {
        tape.refuse();
        return;
      }
      int at = tape.start;
      tape.next();
      program.setCode(item, program.code.length);
      if (expressions.whole(program.code, Expressions.PRINTED, depth + 1)) {
        tape.wrong(3, at);
      }
      expect(Kind.THEN);
      items(depth + 1, isBody);
      program.setNumber(item, program.itemCount);
      if (tape.kind == Kind.ELSE) {
        tape.next();
        items(depth + 1, isBody);
      }
      expect(Kind.END);
    }

    private void line(int depth) {
      tape.next();
      for (int i = 0; i < Tape.MOST_BYTES; i++) {
        if (tape.kind == Kind.AT) {
          tape.next();
          program.addItem(Kind.AT, number(1, program.width), 0);
        } else if (tape.kind.beginsExpression()) {
          int start = program.code.length;
          boolean isText = expressions.whole(program.code, Expressions.PRINTED, depth);
          int piece = program.addItem(isText ? Kind.LEFT : Kind.RIGHT, 0, start);
          field(piece);
        } else {
          return;
        }
      }
    }

    /** Reads the width of a piece and its side, if they are there. */
    private void field(int piece) {
      if (tape.kind != Kind.COLON) {
        return;
      }
      tape.next();
      program.setNumber(piece, number(1, MOST_FIELD));
      if (tape.kind == Kind.LEFT || tape.kind == Kind.RIGHT || tape.kind == Kind.MID) {
        program.setKind(piece, tape.kind);
        tape.next();
      }
    }

    private void expect(Kind kind) {
      if (tape.kind == kind) {
        tape.next();
      } else {
        tape.refuse();
      }
    }

    private int number(int least, int most) {
      long number = tape.value;
      int at = tape.start;
      expect(Kind.NUMBER);
      if (number < least || number > most) {
        tape.wrong(6, at);
        return least;
      }
      return (int) number;
    }

    /** Reads the name of something new. */
    private long newName() {
      long name = tape.value;
      int at = tape.start;
      expect(Kind.NAME);
      if (table.find(name) >= 0 || program.lets.find(name) >= 0 || program.totals.find(name) >= 0) {
        tape.wrong(5, at);
      }
      return name;
    }

    private int columnName() {
      int column = table.find(tape.value);
      int at = tape.start;
      expect(Kind.NAME);
      if (column < 0) {
        tape.wrong(2, at);
      }
      return column;
    }

    /** Reads the name of a group's column and tells the group, or -1. */
    private int groupName() {
      int column = table.find(tape.value);
      int group = column < 0 ? -1 : program.findGroup(column);
      int at = tape.start;
      expect(Kind.NAME);
      if (group < 0) {
        tape.wrong(2, at);
      }
      return group;
    }
  }

  /** Reckons compiled expressions in slots, each of which holds a number or a text. */
  private static final class Machine {
    static final int MOST_TEXT = 60;

    static final int COLUMNS = 0;
    static final int LETS = COLUMNS + Table.MOST_COLUMNS;
    static final int TOTALS = LETS + Definitions.MOST;
    static final int SPECIALS = TOTALS + Definitions.MOST;
    static final int PAGENO = SPECIALS;
    static final int PAGES = SPECIALS + 1;
    static final int ROWNO = SPECIALS + 2;
    static final int RESULT = SPECIALS + 3;
    // A reckoned value stands in the lowest slot of the pile.
    static final int PILE = RESULT + 1;
    // Each value that waits on the pile takes two of the 100 tokens of an expression.
    static final int SLOTS = PILE + 64;

    private final Table table;
    final boolean[] isText = new boolean[SLOTS];
    // A text's number is without meaning, as are a number's bytes.
    final long[] numbers = new long[SLOTS];
    final int[] lengths = new int[SLOTS];
    private final byte[] bytes = new byte[SLOTS * MOST_TEXT];

    Machine(Table table) {
      this.table = table;
    }

    /** Gives the columns the values of a row, or none if there is no such row. */
    void takeRow(int row) {
      for (int column = 0; column < table.columnCount && column < Table.MOST_COLUMNS; column++) {
        long cell = table.cellAt(row, column);
        if (table.isText(column)) {
          writeCell(COLUMNS + column, cell);
        } else {
          writeNumber(COLUMNS + column, cell);
        }
      }
    }

    /** The number in a slot, or the length of the text. */
    long measure(int slot) {
      return isText[slot] ? lengths[slot] : numbers[slot];
    }

    int byteOf(int slot, int index) {
      return bytes[slot * MOST_TEXT + index];
    }

    void writeNumber(int slot, long number) {
      isText[slot] = false;
      numbers[slot] = number;
      lengths[slot] = 0;
    }

    /** Writes 0 or an empty text. */
    void writeNothing(int slot, boolean asText) {
      isText[slot] = asText;
      numbers[slot] = 0;
      lengths[slot] = 0;
    }

    void copy(int from, int to) {
      if (from < 0 || from >= SLOTS || to < 0 || to >= SLOTS) {
        return;
      }
      isText[to] = isText[from];
      numbers[to] = numbers[from];
      lengths[to] = lengths[from];
      for (int i = 0; i < lengths[from]; i++) {
        bytes[to * MOST_TEXT + i] = bytes[from * MOST_TEXT + i];
      }
    }

    /** Whether a value comes ahead of another one (negative), or behind it (positive). */
    int compare(int slot, int other) {
      return isText[slot] ? compareTexts(slot, other) : Long.compare(numbers[slot], numbers[other]);
    }

    /** Reckons the expression that begins at an instruction; false if it divides by 0. */
    boolean reckon(Code code, int start) {
      int at = start;
      int top = PILE - 1;
      for (int i = 0; i < Code.MOST_INSTRUCTIONS && at >= 0 && at < code.length; i++) {
        int operation = code.operations[at];
        long argument = code.arguments[at];
        at++;
        if (operation == Code.DONE || top < PILE - 1 || top >= SLOTS - 1) {
          return true;
        }
        if (operation == Code.JUMP) {
          at = (int) argument;
        } else if (operation == Code.SKIP) {
          at = numbers[top] == 0 ? (int) argument : at;
          top--;
        } else if (operation <= Code.SPECIAL) {
          top++;
          load(code, operation, argument, top);
        } else {
          top -= operandsOf(operation) - 1;
          if ((operation == Code.DIV || operation == Code.MOD) && numbers[top + 1] == 0) {
            return false;
          }
          work(operation, top);
        }
      }
      return true;
    }

    private void load(Code code, int operation, long argument, int slot) {
      int number = (int) argument;
      switch (operation) {
        case Code.NUMBER:
          writeNumber(slot, argument);
          break;
        case Code.TEXT:
          writeText(slot, code, number);
          break;
        case Code.COLUMN:
          copy(COLUMNS + number, slot);
          break;
        case Code.LET:
          copy(LETS + number, slot);
          break;
        case Code.TOTAL:
          copy(TOTALS + number, slot);
          break;
        default:
          copy(SPECIALS + number, slot);
          break;
      }
    }

    private static int operandsOf(int operation) {
      switch (operation) {
        case Code.NOT:
        case Code.NEG:
        case Code.ABS:
        case Code.LEN:
        case Code.UPPER:
        case Code.STR:
        case Code.MONEY:
          return 1;
        case Code.PART:
          return 3;
        default:
          return 2;
      }
    }

    /** Does an operator or function; its first operand is in the slot, as its result will be. */
    private void work(int operation, int slot) {
      switch (operation) {
        case Code.LEN:
          writeNumber(slot, lengths[slot]);
          break;
        case Code.UPPER:
          upper(slot);
          break;
        case Code.PART:
          part(slot, numbers[slot + 1], numbers[slot + 2]);
          break;
        case Code.JOIN:
          join(slot, slot + 1);
          break;
        case Code.STR:
          writeDigits(slot, false);
          break;
        case Code.MONEY:
          writeDigits(slot, true);
          break;
        default:
          writeNumber(slot, isText[slot]
              ? calculate(operation, compareTexts(slot, slot + 1), 0)
              : calculate(operation, numbers[slot], numbers[slot + 1]));
          break;
      }
    }

    /** Reckons an operator or function over numbers; one that has one operand leaves b aside. */
    static long calculate(int operation, long a, long b) {
      switch (operation) {
        case Code.ADD:
          return a + b;
        case Code.SUB:
          return a - b;
        case Code.MUL:
          return a * b;
        case Code.DIV:
          return b == 0 ? 0 : a / b;
        case Code.MOD:
          return b == 0 ? 0 : a % b;
        case Code.EQ:
          return a == b ? 1 : 0;
        case Code.NE:
          return a != b ? 1 : 0;
        case Code.LT:
          return a < b ? 1 : 0;
        case Code.GT:
          return a > b ? 1 : 0;
        case Code.LE:
          return a <= b ? 1 : 0;
        case Code.GE:
          return a >= b ? 1 : 0;
        case Code.NOT:
          return a == 0 ? 1 : 0;
        case Code.NEG:
          return -a;
        case Code.ABS:
          return a < 0 ? -a : a;
        case Code.LEAST:
          return a < b ? a : b;
        default:
          return a > b ? a : b;
      }
    }

    private void writeCell(int slot, long cell) {
      writeNothing(slot, true);
      for (int shift = 56; shift >= 0; shift -= 8) {
        int b = (int) (cell >>> shift) & 255;
        if (b != 0) {
          bytes[slot * MOST_TEXT + lengths[slot]] = (byte) b;
          lengths[slot]++;
        }
      }
    }

    private void writeText(int slot, Code code, int text) {
      isText[slot] = true;
      lengths[slot] = 0;
      if (text < 0 || text >= code.textCount) {
        return;
      }
      int from = code.textStarts[text];
      int end = code.textStarts[text + 1];
      for (int i = from; i < end && lengths[slot] < MOST_TEXT; i++) {
        bytes[slot * MOST_TEXT + lengths[slot]] = code.textBytes[i];
        lengths[slot]++;
      }
    }

    /** Writes the number in a slot as a text; money has a point and two digits behind it. */
    void writeDigits(int slot, boolean isMoney) {
      long number = numbers[slot];
      // Reckoned below 0, as the least number has no positive one.
      long rest = number > 0 ? -number : number;
      int digits = 1;
      for (long more = rest / 10; more != 0 && digits < 20; more /= 10) {
        digits++;
      }
      if (isMoney && digits < 3) {
        digits = 3;
      }
      int sign = number < 0 ? 1 : 0;
      int length = sign + digits + (isMoney ? 1 : 0);
      int first = slot * MOST_TEXT;
      for (int i = length - 1; i >= sign; i--) {
        if (isMoney && i == length - 3) {
          bytes[first + i] = '.';
        } else {
          bytes[first + i] = (byte) ('0' - rest % 10);
          rest /= 10;
        }
      }
      if (sign == 1) {
        bytes[first] = '-';
      }
      isText[slot] = true;
      lengths[slot] = length;
    }

    private void join(int slot, int other) {
      for (int i = 0; i < lengths[other] && lengths[slot] < MOST_TEXT; i++) {
        bytes[slot * MOST_TEXT + lengths[slot]] = bytes[other * MOST_TEXT + i];
        lengths[slot]++;
      }
    }

    private void upper(int slot) {
      int first = slot * MOST_TEXT;
      for (int i = first; i < first + lengths[slot]; i++) {
        if (bytes[i] >= 'a' && bytes[i] <= 'z') {
          bytes[i] = (byte) (bytes[i] - 'a' + 'A');
        }
      }
    }

    private void part(int slot, long from, long most) {
      int first = slot * MOST_TEXT;
      long left = lengths[slot] - from;
      lengths[slot] = 0;
      if (from < 0 || most < 0) {
        return;
      }
      for (int i = 0; i < left && i < most; i++) {
        bytes[first + i] = bytes[first + (int) from + i];
        lengths[slot]++;
      }
    }

    private int compareTexts(int slot, int other) {
      for (int i = 0; i < lengths[slot] && i < lengths[other]; i++) {
        int difference = bytes[slot * MOST_TEXT + i] - bytes[other * MOST_TEXT + i];
        if (difference != 0) {
          return difference;
        }
      }
      return lengths[slot] - lengths[other];
    }
  }

  /** The pages of a run. */
  private static final class Paper {
    static final int MOST_PAGES = 30;
    private static final int MOST_BYTES = MOST_PAGES * 40 * 60;

    int width;
    int height;
    int pageCount;
    // Made with the mill and used by all its runs, so that no call makes a row.
    private final byte[] bytes = new byte[MOST_BYTES];

    /** Takes all pages away; the next ones will have this size. */
    void begin(int newWidth, int newHeight) {
      width = newWidth;
      height = newHeight;
      pageCount = 0;
    }

    void addPage() {
      if (pageCount >= MOST_PAGES) {
        return;
      }
      pageCount++;
      int from = position(pageCount, 1, 1);
      int end = position(pageCount + 1, 1, 1);
      for (int i = from; i < end && i < bytes.length; i++) {
        bytes[i] = ' ';
      }
    }

    boolean hasLine(int page, int line) {
      return page >= 1 && page <= pageCount && line >= 1 && line <= height;
    }

    int read(int page, int line, int place) {
      return bytes[position(page, line, place)];
    }

    /** Writes on the latest page; what is beyond the end of the line is lost. */
    void write(int line, int place, int b) {
      if (hasLine(pageCount, line) && place >= 1 && place <= width) {
        bytes[position(pageCount, line, place)] = (byte) b;
      }
    }

    long sumOf(int page, int line) {
      long sum = 0;
      for (int place = 1; place <= width; place++) {
        sum = sum * 31 + read(page, line, place);
      }
      return sum;
    }

    /** The share of bytes other than blanks. */
    double share() {
      int all = pageCount * width * height;
      if (all == 0) {
        return 0;
      }
      int printed = 0;
      for (int i = 0; i < all && i < bytes.length; i++) {
        if (bytes[i] != ' ') {
          printed++;
        }
      }
      return (double) printed / all;
    }

    private int position(int page, int line, int place) {
      return ((page - 1) * height + line - 1) * width + place - 1;
    }
  }

  /** Runs the program over the rows. */
  private static final class Runner {
    static final int MOST_RUNS = 4;

    private final Table table;
    private final Program program;
    private final Machine machine;
    private final Paper paper;

    int runs;
    int firstPages;
    int takenRows;
    int printedLines;
    int error;
    final int[] order = new int[Table.MOST_ROWS];
    final int[] breaks = new int[Program.MOST_GROUPS];
    // Whether a total has taken a value in since it began anew.
    private final boolean[] hasTaken = new boolean[Definitions.MOST];
    private int topHeight;
    private int bodyHeight;
    private int bottomLine;
    // The lines of the body that were printed or skipped.
    private int usedLines;

    Runner(Table table, Program program, Machine machine, Paper paper) {
      this.table = table;
      this.program = program;
      this.machine = machine;
      this.paper = paper;
    }

    /** Forgets the runs of a program that is gone. */
    void forget() {
      runs = 0;
      firstPages = 0;
      takenRows = 0;
      printedLines = 0;
      error = 0;
      paper.pageCount = 0;
    }

    /** The first or the second one of the two runs that run() makes. */
    void pass(boolean isFirst) {
      begin(isFirst ? 0 : paper.pageCount);
      int rows = table.rowCount();
      int groups = program.groupCount;
      int innermost = Program.AFTER_OUTERMOST - groups + 1;
      turnPage();
      doItems(program.firstOf(Program.TITLE), program.endOf(Program.TITLE), 0);
      for (int place = 0; place < rows && error == 0; place++) {
        int outermost = breakGroups(place);
        for (int band = innermost; place > 0 && band <= Program.AFTER_OUTERMOST - outermost; band++) {
          doItems(program.firstOf(band), program.endOf(band), 0);
        }
        takeRow(place);
        beginTotals(outermost);
        for (int group = outermost; group < groups; group++) {
          int band = Program.BEFORE_OUTERMOST + group;
          doItems(program.firstOf(band), program.endOf(band), 0);
        }
        takeIn();
        doItems(program.firstOf(Program.ROW), program.endOf(Program.ROW), 0);
      }
      for (int band = innermost; rows > 0 && band <= Program.AFTER_OUTERMOST; band++) {
        doItems(program.firstOf(band), program.endOf(band), 0);
      }
      doItems(program.firstOf(Program.SUMMARY), program.endOf(Program.SUMMARY), 0);
      printLines(program.firstOf(Program.BOTTOM), program.endOf(Program.BOTTOM), bottomLine);
      if (isFirst) {
        firstPages = paper.pageCount;
      }
    }

    private void begin(int pages) {
      takenRows = 0;
      printedLines = 0;
      error = 0;
      for (int group = 0; group < Program.MOST_GROUPS; group++) {
        breaks[group] = 0;
      }
      topHeight = program.heightOf(Program.TOP);
      bodyHeight = program.height - topHeight - program.heightOf(Program.BOTTOM);
      bottomLine = topHeight + bodyHeight + 1;
      paper.begin(program.width, program.height);
      machine.takeRow(-1);
      machine.writeNumber(Machine.PAGES, pages);
      machine.writeNumber(Machine.ROWNO, 0);
      for (int let = 0; let < program.lets.length; let++) {
        machine.writeNothing(Machine.LETS + let, program.lets.texts[let]);
      }
      for (int total = 0; total < program.totals.length; total++) {
        beginTotal(total);
      }
      sortRows();
    }

    private void beginTotal(int total) {
      hasTaken[total] = false;
      machine.writeNothing(Machine.TOTALS + total, program.totals.texts[total]);
    }

    private void sortRows() {
      int rows = table.rowCount();
      for (int row = 0; row < rows && row < order.length; row++) {
        int place = row;
        while (place > 0 && comesBefore(row, order[place - 1])) {
          order[place] = order[place - 1];
          place--;
        }
        order[place] = row;
      }
    }

    private boolean comesBefore(int row, int other) {
      for (int i = 0; i < program.orderCount; i++) {
        int compared = table.compareRows(row, other, program.orders[i]);
        if (compared != 0) {
          return program.downs[i] ? compared > 0 : compared < 0;
        }
      }
      return false;
    }

    /** Counts the groups that break ahead of a row and tells the outermost one. */
    private int breakGroups(int place) {
      int outermost = 0;
      while (place > 0 && outermost < program.groupCount
          && table.compareRows(order[place - 1], order[place], program.groups[outermost]) == 0) {
        outermost++;
      }
      for (int group = outermost; group < program.groupCount; group++) {
        breaks[group]++;
      }
      return outermost;
    }

    private void takeRow(int place) {
      if (error != 0) {
        return;
      }
      takenRows++;
      machine.takeRow(order[place]);
      machine.writeNumber(Machine.ROWNO, takenRows);
      for (int let = 0; let < program.lets.length; let++) {
        if (!machine.reckon(program.code, program.lets.starts[let])) {
          error = 2;
          return;
        }
        machine.copy(Machine.PILE, Machine.LETS + let);
      }
    }

    /** The totals per groups from the outermost one that breaks begin anew. */
    private void beginTotals(int outermost) {
      for (int total = 0; total < program.totals.length && error == 0; total++) {
        if (program.totals.scopes[total] >= outermost) {
          beginTotal(total);
        }
      }
    }

    /** The totals take the values of the row in. */
    private void takeIn() {
      for (int total = 0; total < program.totals.length && error == 0; total++) {
        if (machine.reckon(program.code, program.totals.starts[total])) {
          tally(program.totals.tallies[total], Machine.TOTALS + total, !hasTaken[total]);
          hasTaken[total] = true;
        } else {
          error = 2;
        }
      }
    }

    private void tally(Kind kind, int slot, boolean isFirst) {
      boolean takes;
      switch (kind) {
        case SUM:
          machine.numbers[slot] += machine.numbers[Machine.PILE];
          return;
        case COUNT:
          machine.numbers[slot]++;
          return;
        case LEAST:
          takes = isFirst || machine.compare(Machine.PILE, slot) < 0;
          break;
        case MOST:
          takes = isFirst || machine.compare(Machine.PILE, slot) > 0;
          break;
        case FIRST:
          takes = isFirst;
          break;
        default:
          takes = true;
          break;
      }
      if (takes) {
        machine.copy(Machine.PILE, slot);
      }
    }

    /** Ends the page, if there is one, and begins the next one. */
    private void turnPage() {
      if (paper.pageCount > 0) {
        printLines(program.firstOf(Program.BOTTOM), program.endOf(Program.BOTTOM), bottomLine);
      }
      if (error == 0 && paper.pageCount >= Paper.MOST_PAGES) {
        error = 4;
      }
      if (error != 0) {
        return;
      }
      paper.addPage();
      usedLines = 0;
      machine.writeNumber(Machine.PAGENO, paper.pageCount);
      for (int total = 0; total < program.totals.length; total++) {
        if (program.totals.scopes[total] == Program.PER_PAGE) {
          beginTotal(total);
        }
      }
      printLines(program.firstOf(Program.TOP), program.endOf(Program.TOP), 1);
    }

    private void doItems(int from, int to, int depth) {
      int item = from;
      for (int i = 0; i < Program.MOST_ITEMS && depth <= MOST_DEPTH && item < to && error == 0; i++) {
        int end = program.itemEnds[item];
        int number = program.itemNumbers[item];
        Kind kind = program.itemKinds[item];
        int lines = kind == Kind.KEEP ? linesOf(item + 1, end, depth + 1) : number;
        if (error == 0 && wantsBreak(kind, lines)) {
          turnPage();
        }
        switch (kind) {
          case LINE:
            printLines(item, end, topHeight + usedLines + 1);
            usedLines++;
            break;
          case SKIP:
            usedLines += Math.min(number, bodyHeight - usedLines);
            break;
          case KEEP:
            doItems(item + 1, end, depth + 1);
            break;
          case IF:
            boolean holds = holds(item);
            doItems(holds ? item + 1 : number, holds ? number : end, depth + 1);
            break;
          default:
            break;
        }
        item = end;
      }
    }

    /** Whether there is a break of pages ahead of an item that needs so many lines. */
    private boolean wantsBreak(Kind kind, int lines) {
      int left = bodyHeight - usedLines;
      switch (kind) {
        case LINE:
          return left == 0;
        case NEED:
          return usedLines > 0 && left < lines;
        case EJECT:
          return usedLines > 0;
        case KEEP:
          return usedLines > 0 && left < lines && lines <= bodyHeight;
        default:
          return false;
      }
    }

    /** The lines that items would print and skip with the values as they are now. */
    private int linesOf(int from, int to, int depth) {
      int lines = 0;
      int item = from;
      for (int i = 0; i < Program.MOST_ITEMS && depth <= MOST_DEPTH && item < to && error == 0; i++) {
        int end = program.itemEnds[item];
        int number = program.itemNumbers[item];
        switch (program.itemKinds[item]) {
          case LINE:
            lines++;
            break;
          case SKIP:
            lines += number;
            break;
          case KEEP:
            lines += linesOf(item + 1, end, depth + 1);
            break;
          case IF:
            boolean holds = holds(item);
            lines += linesOf(holds ? item + 1 : number, holds ? number : end, depth + 1);
            break;
          default:
            break;
        }
        item = end;
      }
      return lines;
    }

    /** Reckons the condition of an if. */
    private boolean holds(int item) {
      if (!machine.reckon(program.code, program.itemCodes[item])) {
        error = 2;
      }
      return error == 0 && machine.numbers[Machine.PILE] != 0;
    }

    /** Prints lines, one below the other from a line of the page on, and leaves those empty that are skipped. */
    private void printLines(int from, int to, int firstLine) {
      int line = firstLine;
      int item = from;
      for (int i = 0; i < Program.MOST_ITEMS && item < to && error == 0; i++) {
        int end = program.itemEnds[item];
        int place = 1;
        for (int piece = item + 1; piece < end && error == 0; piece++) {
          if (program.itemKinds[piece] == Kind.AT) {
            place = program.itemNumbers[piece];
          } else if (machine.reckon(program.code, program.itemCodes[piece])) {
            place = printPiece(piece, line, place);
          } else {
            error = 2;
          }
        }
        boolean isLine = program.itemKinds[item] == Kind.LINE;
        printedLines += isLine && error == 0 ? 1 : 0;
        line += isLine ? 1 : program.itemNumbers[item];
        item = end;
      }
    }

    /** Prints what was reckoned for a piece and tells the place behind it. */
    private int printPiece(int piece, int line, int place) {
      boolean isNumber = !machine.isText[Machine.PILE];
      if (isNumber) {
        machine.writeDigits(Machine.PILE, false);
      }
      int length = machine.lengths[Machine.PILE];
      int width = program.itemNumbers[piece] == 0 ? length : program.itemNumbers[piece];
      boolean isTooLong = isNumber && length > width;
      int ahead = blanksAhead(program.itemKinds[piece], width - length);
      for (int i = 0; i < width; i++) {
        int b = ' ';
        if (isTooLong) {
          b = '*';
        } else if (i >= ahead && i - ahead < length) {
          b = machine.byteOf(Machine.PILE, i - ahead);
        }
        paper.write(line, place + i, b);
      }
      return place + width;
    }

    private static int blanksAhead(Kind side, int blanks) {
      if (blanks <= 0 || side == Kind.LEFT) {
        return 0;
      }
      return side == Kind.RIGHT ? blanks : blanks / 2;
    }
  }
}
