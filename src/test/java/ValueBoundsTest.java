/** The boundary cases of what expressions mean, and of promises 13 to 15: evaluate, result and resultByte. */
public final class ValueBoundsTest {
  private static final Checks CHECKS = new Checks();

  private static final String TWENTY = "\"abcdefghij0123456789\"";
  private static final String SIXTY = TWENTY + "&" + TWENTY + "&" + TWENTY;
  private static final String SIXTY_BYTES = "abcdefghij0123456789".repeat(3);

  public static void main(String[] args) {
    sumsWrapAround();
    productsWrapAround();
    signsWrapAround();
    divisions();
    rests();
    divisionsBy0();
    relationsOfNumbers();
    relationsOfTexts();
    beginningsOfTexts();
    truth();
    andIsDecided();
    orIsDecided();
    lengths();
    upperCase();
    positionsOfPart();
    numbersOfPart();
    digits();
    hundredths();
    numbersWithoutSign();
    leastAndMost();
    sixtyBytes();
    sixtyBytesWithin();
    sixtyBytesAndNumbers();
    rows();
    cellsOfRows();
    answersOfEvaluate();
    specialsAre0();
    noLetsOrTotals();
    results();
    bytesOfResults();
    whatKeepsTheResult();
    CHECKS.end();
  }

  /** Row 0 holds the greatest, the least, -1, 0, and two texts. */
  private static Mill mill() {
    return new Mill().columns("g", "l", "m", "z", "t$", "e$")
        .cells(Long.MAX_VALUE, Long.MIN_VALUE, -1, 0, "abc", "");
  }

  private static void value(String expression, String due) {
    CHECKS.same("promise 13: " + expression, mill().value(expression, 0), due);
  }

  private static void value(String expression, long due) {
    value(expression, "" + due);
  }

  /** "what is reckoned with them wraps around." */
  private static void sumsWrapAround() {
    value("g", Long.MAX_VALUE);
    value("l", Long.MIN_VALUE);
    value("g + 1", Long.MIN_VALUE);
    value("g + g", -2);
    value("l - 1", Long.MAX_VALUE);
    value("l + m", Long.MAX_VALUE);
    value("l + l", 0);
    value("z - l", Long.MIN_VALUE);
    value("g - m", Long.MIN_VALUE);
    value("g - l", -1);
    value("g + 0", Long.MAX_VALUE);
    value("l - 0", Long.MIN_VALUE);
  }

  private static void productsWrapAround() {
    value("g * 2", -2);
    value("l * 2", 0);
    value("l * m", Long.MIN_VALUE);
    value("g * m", -Long.MAX_VALUE);
    value("g * g", 1);
    value("l * l", 0);
    value("g * l", Long.MIN_VALUE);
    value("g * 0", 0);
  }

  private static void signsWrapAround() {
    value("-l", Long.MIN_VALUE);
    value("-g", Long.MIN_VALUE + 1);
    value("-z", 0);
    value("- -l", Long.MIN_VALUE);
    value("l / m", Long.MIN_VALUE);
    value("l / -1", Long.MIN_VALUE);
    value("l % m", 0);
    value("abs(l)", Long.MIN_VALUE);
  }

  /** "/ is rounded towards 0". */
  private static void divisions() {
    value("7 / (z + 2)", 3);
    value("7 / (z - 2)", -3);
    value("(z - 7) / 2", -3);
    value("(z - 7) / (z - 2)", 3);
    value("1 / (z + 2)", 0);
    value("m / 2", 0);
    value("z / 5", 0);
    value("6 / (z + 2)", 3);
    value("g / g", 1);
    value("l / l", 1);
    value("g / l", 0);
    value("l / g", -1);
    value("l / 2", Long.MIN_VALUE / 2);
    value("g / 1", Long.MAX_VALUE);
  }

  /** "% has the sign of the left operand." */
  private static void rests() {
    value("7 % (z + 3)", 1);
    value("7 % (z - 3)", 1);
    value("(z - 7) % 3", -1);
    value("(z - 7) % (z - 3)", -1);
    value("6 % (z + 3)", 0);
    value("(z - 6) % 3", 0);
    value("2 % (z + 3)", 2);
    value("z % 3", 0);
    value("g % l", Long.MAX_VALUE);
    value("l % g", -1);
    value("l % 2", 0);
    value("l % l", 0);
    value("m % 1", 0);
  }

  /** "An error of the run (section 4) is a / or % by 0." */
  private static void divisionsBy0() {
    for (String expression : new String[] {"1 / 0", "1 % 0", "0 / 0", "0 % 0", "1 / z", "1 % z", "z / z", "l / z", "g % z",
        "1 / (z + z)", "-(1 / z)", "1 / z & t", "len(t & 1 / z)", "1 / z = 0", "least(1, 1 / z)", "1 / len(e)"}) {
      value(expression, "error 8@-1");
    }
    value("z / 1", 0);
    value("z % m", 0);
  }

  /** "the result is 1 or 0". */
  private static void relationsOfNumbers() {
    String[] operators = {"=", "<>", "<", ">", "<=", ">="};
    String[][] pairs = {{"5", "5"}, {"5", "6"}, {"6", "5"}, {"l", "l"}, {"l", "g"}, {"g", "l"}, {"m", "0"}, {"z", "m"}, {"g", "g"}};
    String[] due = {"100011", "011010", "010101", "100011", "011010", "010101", "011010", "010101", "100011"};
    for (int pair = 0; pair < pairs.length; pair++) {
      for (int i = 0; i < operators.length; i++) {
        value(pairs[pair][0] + operators[i] + pairs[pair][1], "" + due[pair].charAt(i));
      }
    }
    value("l < l + 1", 1);
    value("g > g + 1", 1);
  }

  /** "texts are ordered by their bytes (a text that is the beginning of another one comes first)". */
  private static void relationsOfTexts() {
    String[] operators = {"=", "<>", "<", ">", "<=", ">="};
    String[][] pairs = {{"\"\"", "\"\""}, {"\"\"", "\" \""}, {"\" \"", "\"\""}, {"t", "t"}, {"t", "\"abcd\""}, {"\"abcd\"", "t"},
        {"\"b\"", "t"}, {"t", "\"b\""}, {"\"Z\"", "\"a\""}, {"\"~\"", "\"}~\""}, {"e", "\"\""}, {"\"abd\"", "\"abcz\""},
        {SIXTY, SIXTY}, {SIXTY, SIXTY + "&1"}, {SIXTY, "part(" + SIXTY + ",0,59)"}, {"part(" + SIXTY + ",0,59)", SIXTY}};
    String[] due = {"100011", "011010", "010101", "100011", "011010", "010101", "010101", "011010", "011010", "010101", "100011",
        "010101", "100011", "100011", "010101", "011010"};
    for (int pair = 0; pair < pairs.length; pair++) {
      for (int i = 0; i < operators.length; i++) {
        value(pairs[pair][0] + operators[i] + pairs[pair][1], "" + due[pair].charAt(i));
      }
    }
  }

  /** What a longer text has left behind its beginning does not count. */
  private static void beginningsOfTexts() {
    Mill mill = mill();
    String[] operators = {"<", ">", "=", "<>"};
    String[] shorter = {"1", "0", "0", "1"};
    String[] longer = {"0", "1", "0", "1"};
    for (int i = 0; i < operators.length; i++) {
      CHECKS.same("promise 13: longer texts", mill.value("\"abzz\" < \"abzz\""), "0");
      CHECKS.same("promise 13: ab " + operators[i] + " abc", mill.value("\"ab\"" + operators[i] + "\"abc\""), shorter[i]);
      CHECKS.same("promise 13: longer texts", mill.value("\"abzz\" < \"abzz\""), "0");
      CHECKS.same("promise 13: abc " + operators[i] + " ab", mill.value("\"abc\"" + operators[i] + "\"ab\""), longer[i]);
    }
    CHECKS.same("promise 13: the same texts", mill.value("(\"abzz\" = \"abyy\") + (\"ab\" = \"ab\")"), "1");
  }

  /** "a number other than 0 is true". */
  private static void truth() {
    String[] numbers = {"0", "z", "1", "2", "m", "l", "g", "-0", "l * 2"};
    String[] due = {"0", "0", "1", "1", "1", "1", "1", "0", "0"};
    for (int i = 0; i < numbers.length; i++) {
      value("not (" + numbers[i] + ")", due[i].equals("1") ? "0" : "1");
      value(numbers[i] + " and 1", due[i]);
      value("1 and " + numbers[i], due[i]);
      value(numbers[i] + " or 0", due[i]);
      value("0 or " + numbers[i], due[i]);
      value(numbers[i] + " and 0", 0);
      value(numbers[i] + " or 5", 1);
    }
  }

  /** "the right operand is not reckoned if the left one decides." */
  private static void andIsDecided() {
    value("0 and 1 / z", 0);
    value("z and 1 / z", 0);
    value("1 and 1 / z", "error 8@-1");
    value("m and 1 / z", "error 8@-1");
    value("1 / z and 0", "error 8@-1");
    value("0 and 1 / z and 1 / z", 0);
    value("1 and 0 and 1 / z", 0);
    value("0 and (1 and 1 / z)", 0);
    value("(0 and 1 / z) + 3", 3);
  }

  private static void orIsDecided() {
    value("1 or 1 / z", 1);
    value("m or 1 / z", 1);
    value("l or 1 / z", 1);
    value("0 or 1 / z", "error 8@-1");
    value("1 / z or 1", "error 8@-1");
    value("1 or 1 / z or 1 / z", 1);
    value("0 or 1 or 1 / z", 1);
    value("0 and 1 / z or 2", 1);
    value("1 or 1 and 1 / z", 1);
    value("(3 or 1 / z) + 3", 4);
  }

  /** "len(t): the number of bytes of a text." */
  private static void lengths() {
    value("len(e)", 0);
    value("len(\"\")", 0);
    value("len(t)", 3);
    value("len(" + TWENTY + ")", 20);
    value("len(" + SIXTY + ")", 60);
    value("len(" + SIXTY + "& t)", 60);
    value("len(l & \"\")", 20);
  }

  /** "upper(t): a text with A to Z in place of a to z." */
  private static void upperCase() {
    value("upper(\"\")", "''");
    value("upper(e)", "''");
    value("upper(\"az\")", "'AZ'");
    value("upper(\"`{\")", "'`{'");
    value("upper(\"AZ@[\")", "'AZ@['");
    value("upper(\" ~09\")", "' ~09'");
    value("upper(" + SIXTY + ")", "'" + SIXTY_BYTES.toUpperCase() + "'");
    value("upper(t) & t", "'ABCabc'");
    CHECKS.same("promise 8: the cell stays", mill().mill.cell(0, 4), Mill.packed("abc"));
  }

  /** "from a position on (none if from is negative or beyond the end ..)". */
  private static void positionsOfPart() {
    value("part(t, 0, 5)", "'abc'");
    value("part(t, 1, 5)", "'bc'");
    value("part(t, 2, 5)", "'c'");
    value("part(t, 3, 5)", "''");
    value("part(t, 4, 5)", "''");
    value("part(t, m, 5)", "''");
    value("part(t, l, 5)", "''");
    value("part(t, l + 1, 5)", "''");
    value("part(t, g, 5)", "''");
    value("part(t, 65536 * 65536, 5)", "''");
    value("part(t, 65536 * 65536 + 1, 5)", "''");
    value("part(e, 0, 5)", "''");
    value("part(e, 1, 5)", "''");
    value("part(" + SIXTY + ", 59, 5)", "'9'");
    value("part(" + SIXTY + ", 60, 5)", "''");
  }

  /** "the at most n bytes of the text .. (none if .. n is negative)". */
  private static void numbersOfPart() {
    value("part(t, 0, 0)", "''");
    value("part(t, 0, 1)", "'a'");
    value("part(t, 0, 2)", "'ab'");
    value("part(t, 0, 3)", "'abc'");
    value("part(t, 0, 4)", "'abc'");
    value("part(t, 1, 2)", "'bc'");
    value("part(t, 1, 3)", "'bc'");
    value("part(t, 0, m)", "''");
    value("part(t, 0, l)", "''");
    value("part(t, 0, g)", "'abc'");
    value("part(t, 2, g)", "'c'");
    value("part(t, 0, 65536 * 65536)", "'abc'");
    value("part(t, m, m)", "''");
    value("part(t, g, g)", "''");
    value("part(e, 0, 0)", "''");
    value("part(" + SIXTY + ", 0, 60)", "'" + SIXTY_BYTES + "'");
    value("part(" + SIXTY + ", 0, 59)", "'" + SIXTY_BYTES.substring(0, 59) + "'");
  }

  /** "text(n): the digits of a number, with - in front of a negative one." */
  private static void digits() {
    long[] numbers = {0, 1, 9, 10, 99, 100, 999999999, 1000000000, 999999999999999999L, 1000000000000000000L, Long.MAX_VALUE};
    for (long number : numbers) {
      for (long signed : new long[] {number, -number}) {
        Mill mill = new Mill().columns("n").cells(signed);
        CHECKS.same("promise 13: text", mill.value("text(n)", 0), "'" + signed + "'");
        CHECKS.same("promise 13: join", mill.value("n & \"\"", 0), "'" + signed + "'");
      }
    }
    value("text(l)", "'-9223372036854775808'");
    value("text(l + 1)", "'-9223372036854775807'");
    value("text(-z)", "'0'");
  }

  /** "- in front of a negative one, the digits of its hundreds as one number, a point, and two digits." */
  private static void hundredths() {
    long[] numbers = {0, 1, 9, 10, 99, 100, 101, 109, 110, 999, 1000, 10000, 123456789};
    String[] due = {"0.00", "0.01", "0.09", "0.10", "0.99", "1.00", "1.01", "1.09", "1.10", "9.99", "10.00", "100.00", "1234567.89"};
    for (int i = 0; i < due.length; i++) {
      value("money(z + " + numbers[i] + ")", "'" + due[i] + "'");
      value("money(z - " + numbers[i] + ")", "'" + (i == 0 ? "" : "-") + due[i] + "'");
    }
    value("money(g)", "'92233720368547758.07'");
    value("money(l)", "'-92233720368547758.08'");
    value("money(l + 8)", "'-92233720368547758.00'");
    value("len(money(l))", 21);
  }

  /** "abs(n): the number without its sign (the least number stays as it is)." */
  private static void numbersWithoutSign() {
    value("abs(z)", 0);
    value("abs(m)", 1);
    value("abs(1)", 1);
    value("abs(g)", Long.MAX_VALUE);
    value("abs(l + 1)", Long.MAX_VALUE);
    value("abs(l)", Long.MIN_VALUE);
    value("abs(abs(l))", Long.MIN_VALUE);
  }

  /** "least(m, n), most(m, n): numbers." */
  private static void leastAndMost() {
    String[][] pairs = {{"3", "4"}, {"4", "3"}, {"3", "3"}, {"l", "g"}, {"g", "l"}, {"m", "z"}, {"z", "m"}, {"l", "l"}, {"g", "g"}};
    long[][] due = {{3, 4}, {3, 4}, {3, 3}, {Long.MIN_VALUE, Long.MAX_VALUE}, {Long.MIN_VALUE, Long.MAX_VALUE}, {-1, 0}, {-1, 0},
        {Long.MIN_VALUE, Long.MIN_VALUE}, {Long.MAX_VALUE, Long.MAX_VALUE}};
    for (int i = 0; i < pairs.length; i++) {
      value("least(" + pairs[i][0] + ", " + pairs[i][1] + ")", due[i][0]);
      value("most(" + pairs[i][0] + ", " + pairs[i][1] + ")", due[i][1]);
    }
  }

  /** "A text that is reckoned has at most 60 bytes: what is beyond is cut off." */
  private static void sixtyBytes() {
    String fiftyNine = "part(" + SIXTY + ",0,59)";
    value(fiftyNine + "& \"\"", "'" + SIXTY_BYTES.substring(0, 59) + "'");
    value(fiftyNine + "& \"x\"", "'" + SIXTY_BYTES.substring(0, 59) + "x'");
    value(fiftyNine + "& \"xy\"", "'" + SIXTY_BYTES.substring(0, 59) + "x'");
    value(SIXTY, "'" + SIXTY_BYTES + "'");
    value(SIXTY + "& \"\"", "'" + SIXTY_BYTES + "'");
    value(SIXTY + "& \"x\"", "'" + SIXTY_BYTES + "'");
    value("\"\" & " + SIXTY, "'" + SIXTY_BYTES + "'");
    value("\"x\" & " + SIXTY, "'x" + SIXTY_BYTES.substring(0, 59) + "'");
    value("(" + SIXTY + ") & (" + SIXTY + ")", "'" + SIXTY_BYTES + "'");
    value("upper(" + SIXTY + "&" + SIXTY + ")", "'" + SIXTY_BYTES.toUpperCase() + "'");
  }

  /** It is cut off at once, not at the end. */
  private static void sixtyBytesWithin() {
    value("part(" + SIXTY + "& \"x\", 59, 5)", "'9'");
    value("part(" + SIXTY + "& \"x\", 60, 5)", "''");
    value("part(\"x\" & (" + SIXTY + "), 59, 5)", "'8'");
    value("len(" + SIXTY + "&" + SIXTY + ")", 60);
    value("(" + SIXTY + "& \"x\") = (" + SIXTY + ")", 1);
    value("(" + SIXTY + "& \"x\") = (" + SIXTY + "& \"y\")", 1);
    value("part(" + SIXTY + "& 1, 1, 60) & 2", "'" + SIXTY_BYTES.substring(1) + "2'");
  }

  private static void sixtyBytesAndNumbers() {
    value("l & l & l", "'" + ("" + Long.MIN_VALUE).repeat(3) + "'");
    value("l & l & l & l", "'" + ("" + Long.MIN_VALUE).repeat(3) + "'");
    value("t & l & l & l", "'abc" + ("" + Long.MIN_VALUE).repeat(3).substring(0, 57) + "'");
    value(SIXTY + "& l", "'" + SIXTY_BYTES + "'");
  }

  /** "row: the row whose cells are meant; -1 for numbers that are 0 and texts that are empty". */
  private static void rows() {
    Mill mill = new Mill().columns("n", "t$");
    CHECKS.same("promise 13: row -1, no rows", mill.value("n & t & \".\"", -1), "'0.'");
    CHECKS.fails("promise 13: row 0, no rows", IndexOutOfBoundsException.class, () -> mill.mill.evaluate(0));
    for (int row = 0; row < 40; row++) {
      mill.cells(row + 100, "r" + row);
    }
    CHECKS.same("promise 13: row 0", mill.value("n & t", 0), "'100r0'");
    CHECKS.same("promise 13: row 39", mill.value("n & t", 39), "'139r39'");
    CHECKS.same("promise 13: row -1", mill.value("n & t & \".\"", -1), "'0.'");
    CHECKS.same("promise 13: row -1", mill.value("len(t) + n", -1), "0");
    for (int row : new int[] {-2, 40, Integer.MIN_VALUE, Integer.MAX_VALUE}) {
      CHECKS.fails("promise 13: row " + row, IndexOutOfBoundsException.class, () -> mill.mill.evaluate(row));
    }
    mill.mill.clear();
    CHECKS.fails("promise 13: row 0 is away", IndexOutOfBoundsException.class, () -> mill.mill.evaluate(0));
    CHECKS.same("promise 13: row -1, no rows", mill.value("n & t & \".\"", -1), "'0.'");
    CHECKS.same("promise 13: a mill without columns", new Mill().value("1", -1), "1");
  }

  private static void cellsOfRows() {
    Mill mill = new Mill().columns("t$", "u$").cells("abcdefgh", "", "", "~", "a", "abcdefgh");
    CHECKS.same("promise 13: eight bytes and none", mill.value("t & u & \".\"", 0), "'abcdefgh.'");
    CHECKS.same("promise 13: none and one", mill.value("t & u & \".\"", 1), "'~.'");
    CHECKS.same("promise 13: one and eight", mill.value("t & u & \".\"", 2), "'aabcdefgh.'");
    CHECKS.same("promise 13: sixty", mill.value("u & u & u & u & u & u & u & u", 2), "'" + "abcdefgh".repeat(7) + "abcd'");
  }

  /** "Returns 0 if a number comes out, 7 if a text does; otherwise the error: 1 to 3 of the tape, 8 for a / or % by 0." */
  private static void answersOfEvaluate() {
    String[] expressions = {"0", "g", "len(t)", "t = e", "\"\"", "e", "1 & 2", "text(1)", "money(1)", "upper(t)", "part(t, 0, 0)", "",
        "nix", "-t", "1 / 0", "t & 1 % 0", "1 / 0 )", "1 / 0 + nix", "1 / 0 + t", "1 / 0 + 1 / 0"};
    int[] due = {0, 0, 0, 0, 7, 7, 7, 7, 7, 7, 7, 1, 2, 3, 8, 8, 1, 2, 3, 8};
    for (int i = 0; i < due.length; i++) {
      CHECKS.same("promise 13: " + expressions[i], mill().tape(expressions[i]).mill.evaluate(0), due[i]);
    }
  }

  /** "pageno, pages and rowno are 0." */
  private static void specialsAre0() {
    Mill mill = mill();
    mill.compile("page 10 4 band row line 1 eject line 2 end");
    mill.mill.run();
    CHECKS.same("promise 17: two pages", mill.mill.told(1), 2);
    for (String special : new String[] {"pageno", "pages", "rowno"}) {
      CHECKS.same("promise 13: " + special, mill.value(special, 0), "0");
      CHECKS.same("promise 13: " + special, mill.value("1 / " + special, 0), "error 8@-1");
      CHECKS.same("promise 13: " + special, mill.value(special + " & \"\"", -1), "'0'");
    }
  }

  /** "an expression, in which columns can be used". */
  private static void noLetsOrTotals() {
    Mill mill = mill();
    mill.compile("let x = 1 total y = sum 1");
    CHECKS.same("promise 13: a let", mill.value("x", 0), "error 2@0");
    CHECKS.same("promise 13: a total", mill.value("g + y", 0), "error 2@4");
    CHECKS.same("promise 13: a column", mill.value("m", 0), "-1");
    CHECKS.same("promise 9: the program stays", mill.mill.run(), 0);
  }

  /** "Returns the number that evaluate() reckoned last; the number of bytes, if it was a text; 0 if it had an error, or was never done." */
  private static void results() {
    Mill mill = mill();
    CHECKS.same("promise 14: never done", mill.mill.result(), 0);
    mill.value("l", 0);
    CHECKS.same("promise 14: the least number", mill.mill.result(), Long.MIN_VALUE);
    mill.value("g", 0);
    CHECKS.same("promise 14: the greatest number", mill.mill.result(), Long.MAX_VALUE);
    mill.value("e", 0);
    CHECKS.same("promise 14: an empty text", mill.mill.result(), 0);
    mill.value(SIXTY + "& 1", 0);
    CHECKS.same("promise 14: the longest text", mill.mill.result(), 60);
    String[] errors = {"1 +", "nix", "-t", "1 / 0", "t & 1 % z", ""};
    for (String error : errors) {
      mill.value("t", 0);
      CHECKS.same("promise 14: a text", mill.mill.result(), 3);
      mill.value(error, 0);
      CHECKS.same("promise 14: behind " + error, mill.mill.result(), 0);
      mill.value("5", 0);
      CHECKS.same("promise 14: a number", mill.mill.result(), 5);
      mill.value(error, 0);
      CHECKS.same("promise 14: behind " + error, mill.mill.result(), 0);
    }
  }

  /** "Returns this byte of the text that evaluate() reckoned last.", from position 0 on. */
  private static void bytesOfResults() {
    Mill mill = mill();
    mill.tape(SIXTY + "& 1").mill.evaluate(0);
    for (int i = 0; i < 60; i++) {
      CHECKS.same("promise 15: byte " + i, mill.mill.resultByte(i), SIXTY_BYTES.charAt(i));
    }
    CHECKS.fails("promise 15: byte 60", IndexOutOfBoundsException.class, () -> mill.mill.resultByte(60));
    CHECKS.fails("promise 15: byte -1", IndexOutOfBoundsException.class, () -> mill.mill.resultByte(-1));
    mill.tape("\" ~\"").mill.evaluate(0);
    CHECKS.same("promise 15: the least byte", mill.mill.resultByte(0), 32);
    CHECKS.same("promise 15: the greatest byte", mill.mill.resultByte(1), 126);
    CHECKS.fails("promise 15: a shorter text", IndexOutOfBoundsException.class, () -> mill.mill.resultByte(2));
    mill.tape("65").mill.evaluate(0);
    CHECKS.fails("promise 15: a number", IndexOutOfBoundsException.class, () -> mill.mill.resultByte(0));
    mill.tape("text(65)").mill.evaluate(0);
    CHECKS.same("promise 15: its text", mill.mill.resultByte(1), '5');
  }

  private static void whatKeepsTheResult() {
    Mill mill = mill();
    mill.value("t", 0);
    mill.tape("1 + 1");
    mill.compile("let x = 77 total s = last \"long text\" band row line \"another one\" end");
    mill.mill.run();
    mill.mill.clear();
    mill.columns("c").tape("5");
    CHECKS.fails("promise 13: no row", IndexOutOfBoundsException.class, () -> mill.mill.evaluate(0));
    CHECKS.same("promise 14: it stays", mill.mill.result(), 3);
    CHECKS.same("promise 15: it stays", mill.mill.resultByte(0), 'a');
    CHECKS.same("promise 15: it stays", mill.mill.resultByte(2), 'c');
    mill.compile("1 +");
    CHECKS.same("promise 14: an error of compile leaves it", mill.mill.result(), 3);
  }
}
