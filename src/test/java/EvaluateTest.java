/** Promises 13 to 15: evaluate, result and resultByte, and what expressions mean. */
public final class EvaluateTest {
  private static final Checks CHECKS = new Checks();

  public static void main(String[] args) {
    rows();
    results();
    errors();
    names();
    numbers();
    relations();
    conditions();
    texts();
    longTexts();
    functions();
    longExpressions();
    CHECKS.end();
  }

  private static Mill mill() {
    return new Mill().columns("a", "t$", "m").cells(5, "abc", Long.MIN_VALUE, -7, "", Long.MAX_VALUE);
  }

  private static void value(String expression, String due) {
    CHECKS.same("promise 13: " + expression, mill().value(expression, 0), due);
  }

  private static void value(String expression, long due) {
    value(expression, "" + due);
  }

  private static void rows() {
    Mill mill = mill();
    CHECKS.same("promise 13: row 0", mill.value("a & t", 0), "'5abc'");
    CHECKS.same("promise 13: row 1", mill.value("a & t & m", 1), "'-79223372036854775807'");
    CHECKS.same("promise 13: row -1", mill.value("a & t & m", -1), "'00'");
    CHECKS.same("promise 13: row -1", mill.value("len(t)", -1), "0");
    CHECKS.fails("promise 13: row 2", IndexOutOfBoundsException.class, () -> mill.mill.evaluate(2));
    CHECKS.fails("promise 13: row -2", IndexOutOfBoundsException.class, () -> mill.mill.evaluate(-2));
    mill.cells(1, "x");
    CHECKS.fails("promise 13: half a row", IndexOutOfBoundsException.class, () -> mill.mill.evaluate(2));
    CHECKS.fails("promise 13: no columns", IndexOutOfBoundsException.class, () -> new ReportMill().evaluate(0));
    CHECKS.same("promise 13: no columns", new Mill().value("1 + 1"), "2");
  }

  private static void results() {
    Mill mill = mill();
    CHECKS.same("promise 14: never done", mill.mill.result(), 0);
    CHECKS.fails("promise 15: never done", IndexOutOfBoundsException.class, () -> mill.mill.resultByte(0));
    CHECKS.same("promise 13: a text", mill.tape("\"xyz\"").mill.evaluate(-1), 7);
    CHECKS.same("promise 14: a text", mill.mill.result(), 3);
    CHECKS.same("promise 15: first byte", mill.mill.resultByte(0), 'x');
    CHECKS.same("promise 15: last byte", mill.mill.resultByte(2), 'z');
    CHECKS.fails("promise 15: -1", IndexOutOfBoundsException.class, () -> mill.mill.resultByte(-1));
    CHECKS.fails("promise 15: 3", IndexOutOfBoundsException.class, () -> mill.mill.resultByte(3));
    CHECKS.fails("promise 13: no row", IndexOutOfBoundsException.class, () -> mill.mill.evaluate(7));
    CHECKS.same("promise 14: it stays", mill.mill.result(), 3);
    mill.compile("let x = 9 total s = sum 3 band row line x & t end");
    mill.mill.run();
    CHECKS.same("promise 14: run leaves it", mill.mill.result(), 3);
    CHECKS.same("promise 15: run leaves it", mill.mill.resultByte(1), 'y');
    CHECKS.same("promise 13: a number", mill.value("100"), "100");
    CHECKS.fails("promise 15: a number", IndexOutOfBoundsException.class, () -> mill.mill.resultByte(0));
    CHECKS.same("promise 22: evaluate leaves the totals", mill.mill.total(0), 6);
    mill.value("\"\"");
    CHECKS.same("promise 14: an empty text", mill.mill.result(), 0);
    CHECKS.fails("promise 15: an empty text", IndexOutOfBoundsException.class, () -> mill.mill.resultByte(0));
    mill.value("\"abc\"");
    mill.value("1 / 0");
    CHECKS.same("promise 14: an error of the run", mill.mill.result(), 0);
    CHECKS.fails("promise 15: an error of the run", IndexOutOfBoundsException.class, () -> mill.mill.resultByte(0));
    mill.value("\"abc\"");
    mill.value("nix");
    CHECKS.same("promise 14: an error of the tape", mill.mill.result(), 0);
    CHECKS.fails("promise 15: an error of the tape", IndexOutOfBoundsException.class, () -> mill.mill.resultByte(0));
  }

  private static void errors() {
    value("", "error 1@0");
    value("1 +", "error 1@3");
    value("1 2", "error 1@2");
    value("(1", "error 1@2");
    value("1)", "error 1@1");
    value("let x = 1", "error 1@0");
    value("a : 3", "error 1@2");
    value("a = a = a", "error 1@6");
    value("a < a and a < a < a", "error 1@16");
    value("nix", "error 2@0");
    value("1 + t", "error 3@2");
    value("1 / 0", "error 8@-1");
    value("1 % 0", "error 8@-1");
    value("a / (a - 5) & t", "error 8@-1");
    value("t + 1 / 0", "error 3@2");
    value("1 / 0 + nix", "error 2@8");
    value("1 / 0 )", "error 1@6");
  }

  private static void names() {
    Mill mill = mill();
    mill.compile("let x = 1 total y = sum a");
    CHECKS.same("promise 13: a let", mill.value("x", 0), "error 2@0");
    CHECKS.same("promise 13: a total", mill.value("1 + y", 0), "error 2@4");
    mill.compile("band row line a end");
    mill.mill.run();
    CHECKS.same("promise 13: specials", mill.value("pageno + pages + rowno", 0), "0");
    CHECKS.same("promise 13: specials", mill.value("not pageno", 0), "1");
  }

  private static void numbers() {
    value("7 / 2", 3);
    value("-7 / 2", -3);
    value("7 / -2", -3);
    value("a / 2 - a / -2", 4);
    value("-a / 2", -2);
    value("-a % 3", -2);
    value("a % -3", 2);
    value("-a % -3", -2);
    value("m / -1", Long.MIN_VALUE);
    value("m % -1", 0);
    value("m - 1", Long.MAX_VALUE);
    value("-m", Long.MIN_VALUE);
    value("m * 3", Long.MIN_VALUE);
    value("a - 1 - 2", 2);
    value("a - (1 - 2)", 6);
    value("a * 100 / 7 % 9", 71 % 9);
    value("2 + a * 3", 17);
    value("- - a", 5);
    value("not a", 0);
    value("not not a", 1);
    value("not 0 + 1", 2);
    value("-a * a", -25);
  }

  private static void relations() {
    value("(a = 5) + (a <> 5) * 10 + (a < 5) * 100 + (a > 5) * 1000", 1);
    value("(a <= 5) + (a >= 5) * 10 + (a < 6) * 100 + (a > 4) * 1000", 1111);
    value("(m < a) + (a > m) * 10", 11);
    value("(a >= 6) + (a <= 4) * 10 + (m >= a) * 100 + (a <= m) * 1000", 0);
    value("(t >= \"abd\") + (t <= \"abb\") * 10", 0);
    value("(t = \"abc\") + (t <> \"abc\") * 10", 1);
    value("(t < \"abd\") + (t < \"abc\") * 10 + (t < \"abcd\") * 100 + (t < \"ab\") * 1000", 101);
    value("(t > \"ab\") + (t > \"abd\") * 10 + (t >= \"abc\") * 100 + (t <= \"abc\") * 1000", 1101);
    value("(t > \"ABC\") + (t > \"\") * 10 + (\"\" = \"\") * 100 + (\"\" < \"\") * 1000", 111);
    value("\"~\" > \" ~\"", 1);
  }

  private static void conditions() {
    value("a and 2", 1);
    value("a and 0", 0);
    value("0 and a", 0);
    value("-1 or 0", 1);
    value("0 or -1", 1);
    value("0 or 0", 0);
    value("0 and 1 / 0", 0);
    value("1 or 1 / 0", 1);
    value("1 and 1 / 0", "error 8@-1");
    value("0 or 1 / 0", "error 8@-1");
    value("1 / 0 or 1", "error 8@-1");
    value("1 or 0 and 1 / 0", 1);
    value("0 and 1 / 0 or 3", 1);
    value("a = 4 or a = 5 and t = \"abc\"", 1);
    value("(1 or 0) and 0", 0);
    value("1 or 0 and 0", 1);
  }

  private static void texts() {
    value("\"\"", "''");
    value("\" !#~\"", "' !#~'");
    value("1 & 2", "'12'");
    value("t & t", "'abcabc'");
    value("1 + 2 & 3 & -4", "'33-4'");
    value("m & \"\"", "'-9223372036854775808'");
    value("0 & \"\"", "'0'");
    value("text(m - 1)", "'9223372036854775807'");
    value("text(-10)", "'-10'");
    value("text(0)", "'0'");
    value("upper(\"azAZ{`09\")", "'AZAZ{`09'");
    value("upper(t) & t", "'ABCabc'");
  }

  private static void longTexts() {
    String twenty = "\"abcdefghij0123456789\"";
    String sixty = "'abcdefghij0123456789abcdefghij0123456789abcdefghij0123456789'";
    value(twenty + "&" + twenty + "&" + twenty, sixty);
    value(twenty + "&" + twenty + "&" + twenty + "& t", sixty);
    value("t &" + twenty + "&" + twenty + "&" + twenty, "'abc" + sixty.substring(1, 58) + "'");
    value("len(" + twenty + "&" + twenty + "&" + twenty + "& 1) & t", "'60abc'");
    value("part(t & (" + twenty + "&" + twenty + "&" + twenty + "), 59, 9)", "'6'");
  }

  private static void functions() {
    value("len(t)", 3);
    value("len(\"\")", 0);
    value("part(t, 0, 2)", "'ab'");
    value("part(t, 1, 9)", "'bc'");
    value("part(t, 3, 9)", "''");
    value("part(t, 4, 9)", "''");
    value("part(t, -1, 9)", "''");
    value("part(t, 0, 0)", "''");
    value("part(t, 0, -1)", "''");
    value("part(t, 1, m - 1)", "'bc'");
    value("part(t, m, m)", "''");
    value("part(t, m - 1, m - 1)", "''");
    value("part(t, 4294967296, 1)", "error 1@8");
    value("part(t, 65536 * 65536, 1)", "''");
    value("money(0)", "'0.00'");
    value("money(5)", "'0.05'");
    value("money(-5)", "'-0.05'");
    value("money(99)", "'0.99'");
    value("money(100)", "'1.00'");
    value("money(-12345)", "'-123.45'");
    value("money(m)", "'-92233720368547758.08'");
    value("money(m - 1)", "'92233720368547758.07'");
    value("abs(-5) & abs(5) & abs(0)", "'550'");
    value("abs(m)", Long.MIN_VALUE);
    value("abs(m + 1)", Long.MAX_VALUE);
    value("least(a, -a) & most(a, -a)", "'-55'");
    value("least(m, 1)", Long.MIN_VALUE);
    value("most(m, m - 1)", Long.MAX_VALUE);
    value("least(3, 3) + most(4, 4)", 7);
  }

  private static void longExpressions() {
    value("a - (a - (a - (a - (a - (a - (a - (a - (a - (a - (a - (a - (1))))))))))))", 1);
    StringBuilder deep = new StringBuilder("1");
    for (int i = 0; i < 11; i++) {
      deep.insert(0, "1 < 1 + rowno * (").append(")");
    }
    value(deep.toString(), 0);
    value("part(t, 0, part(t, 0, 1))", "error 3@0");
    value("part(t, 1 + len(part(t, 1 + len(part(t, 3, 9)), 9)), 9)", "''");
  }
}
