/** The boundary cases of section 3 (compiled code) and of promises 9 to 12. */
public final class CodeBoundsTest {
  private static final Checks CHECKS = new Checks();

  public static void main(String[] args) {
    answersOfCompile();
    goneInAnyCase();
    positionsOfErrors();
    noPosition();
    sizes();
    firstAndLastInstruction();
    argumentsThatAreNotNamed();
    numbersOfTexts();
    numbersOfColumns();
    numbersOfLetsAndTotals();
    specials();
    strAheadOfJoin();
    jumps();
    greatestParts();
    partsThatAreNotSimplified();
    divisionsBy0();
    simplifyingWraps();
    longestCode();
    largestExpression();
    CHECKS.end();
  }

  private static Mill mill() {
    return new Mill().columns("a", "t$");
  }

  /** Compiles a let and tells its code without the DONE. */
  private static void code(String expression, String due) {
    Mill mill = mill();
    CHECKS.same("promise 9: " + expression, mill.error("let x = " + expression), "0@-1");
    CHECKS.same("promise 12: " + expression, mill.code(), due + " 30");
  }

  /** "Returns 0, or the error, 1 to 6." */
  private static void answersOfCompile() {
    String[] programs = {"let x = a", "let x = a +", "let x = nix", "let x = -t", "page 10 4 page 10 4", "let a = 1",
        "page 9 4"};
    for (int error = 0; error < programs.length; error++) {
      CHECKS.same("promise 9: " + programs[error], mill().compile(programs[error]), error);
    }
  }

  /** "the one that was there is gone in any case." */
  private static void goneInAnyCase() {
    for (String program : new String[] {"let x =", "let x = nix", "let x = -t", "page 10 4 page 10 4", "let a = 1", "page 9 4"}) {
      Mill mill = mill();
      mill.compile("page 10 4 group a total s = sum 1 band title line 1 end");
      mill.cells(1, "x");
      mill.mill.run();
      mill.compile(program);
      CHECKS.same("promise 11: behind " + program, mill.mill.codeSize(), 0);
      CHECKS.same("promise 24: behind " + program, "" + mill.mill.filled(), "0.0");
      for (int what = 0; what < 5; what++) {
        CHECKS.same("promise 17: behind " + program, mill.mill.told(what), 0);
      }
      CHECKS.fails("promise 12: behind " + program, IndexOutOfBoundsException.class, () -> mill.mill.code(0, false));
      CHECKS.fails("promise 16: behind " + program, IllegalStateException.class, mill.mill::run);
      CHECKS.fails("promise 18: behind " + program, IllegalStateException.class, () -> mill.mill.size(true));
      CHECKS.fails("promise 20: behind " + program, IndexOutOfBoundsException.class, () -> mill.mill.lineSum(1, 1));
      CHECKS.fails("promise 21: behind " + program, IndexOutOfBoundsException.class, () -> mill.mill.taken(0));
      CHECKS.fails("promise 22: behind " + program, IndexOutOfBoundsException.class, () -> mill.mill.total(0));
      CHECKS.fails("promise 23: behind " + program, IndexOutOfBoundsException.class, () -> mill.mill.broke(0));
    }
    Mill mill = mill();
    mill.compile("let x = 1 let y = 2 order a order a order a order a group a group t total s = sum 1 band row end");
    CHECKS.same("promise 9: nothing is left of it", mill.error("page 10 4 let x = 1 order a order a order a order a"
        + " group t group a total s = sum 1 band row end"), "0@-1");
    CHECKS.same("promise 12: nothing is left of it", mill.code(), "0:1 30 0:1 30");
  }

  /** "Returns the position of the error, 1 to 6, of the latest compile or evaluate", from 0 to the length of the tape. */
  private static void positionsOfErrors() {
    String[] programs = {")", "let", "order nix", "let x = -t", "page 10 4 page 10 4", "let a = 1", "page 9 4", "band top skip 20 end"};
    int[] due = {0, 3, 6, 8, 10, 4, 5, 20};
    for (int i = 0; i < programs.length; i++) {
      Mill mill = mill();
      mill.compile(programs[i]);
      CHECKS.same("promise 10: " + programs[i], mill.mill.errorAt(), due[i]);
      mill.columns("c").cells(1, "", 1).tape("zz");
      mill.mill.clear();
      CHECKS.same("promise 10: it stays", mill.mill.errorAt(), due[i]);
    }
    Mill mill = mill();
    mill.compile(" ".repeat(1999) + "#");
    CHECKS.same("promise 10: the last byte", mill.mill.errorAt(), 1999);
    mill.compile("let" + " ".repeat(1997));
    CHECKS.same("promise 10: the end of a full tape", mill.mill.errorAt(), 2000);
    mill.value(")");
    CHECKS.same("promise 10: the latest one was evaluate", mill.mill.errorAt(), 0);
    mill.value("1 + nix");
    CHECKS.same("promise 10: evaluate, error 2", mill.mill.errorAt(), 4);
    mill.value("1 + -t");
    CHECKS.same("promise 10: evaluate, error 3", mill.mill.errorAt(), 4);
  }

  /** "-1 if it had none of these." */
  private static void noPosition() {
    Mill mill = mill();
    CHECKS.same("promise 10: never compiled", mill.mill.errorAt(), -1);
    for (String expression : new String[] {"1", "t", "1 / 0"}) {
      mill.compile(")");
      CHECKS.same("promise 10: an error", mill.mill.errorAt(), 0);
      mill.value(expression);
      CHECKS.same("promise 10: evaluate " + expression, mill.mill.errorAt(), -1);
    }
    mill.value(")");
    mill.compile("");
    CHECKS.same("promise 10: compile", mill.mill.errorAt(), -1);
    mill.compile("band title line 1 / 0 end");
    mill.mill.run();
    CHECKS.same("promise 10: an error of the run", mill.mill.errorAt(), -1);
  }

  /** "Returns the number of instructions of the program; 0 if there is none." */
  private static void sizes() {
    Mill mill = mill();
    CHECKS.same("promise 11: no program", mill.mill.codeSize(), 0);
    mill.compile("");
    CHECKS.same("promise 11: an empty program", mill.mill.codeSize(), 0);
    mill.compile("page 10 4 order a group a band row skip 1 line at 1 eject end");
    CHECKS.same("promise 11: no expressions", mill.mill.codeSize(), 0);
    mill.compile("let x = 1");
    CHECKS.same("promise 11: the least expression", mill.mill.codeSize(), 2);
    mill.compile("let x = nix");
    CHECKS.same("promise 11: an error", mill.mill.codeSize(), 0);
    mill.compile("let x = 1");
    mill.columns("c");
    CHECKS.same("promise 11: a column more", mill.mill.codeSize(), 0);
    mill.compile("let x = 1");
    mill.value("a + 1 & t");
    CHECKS.same("promise 11: evaluate has none of it", mill.mill.codeSize(), 2);
  }

  private static void firstAndLastInstruction() {
    Mill mill = mill();
    mill.compile("let x = 7 + a");
    CHECKS.same("promise 12: first code", mill.mill.code(0, false), 0);
    CHECKS.same("promise 12: first argument", mill.mill.code(0, true), 7);
    CHECKS.same("promise 12: last code", mill.mill.code(3, false), 30);
    CHECKS.same("promise 12: last argument", mill.mill.code(3, true), 0);
    for (int index : new int[] {-1, 4, Integer.MIN_VALUE, Integer.MAX_VALUE}) {
      CHECKS.fails("promise 12: " + index, IndexOutOfBoundsException.class, () -> mill.mill.code(index, false));
      CHECKS.fails("promise 12: " + index, IndexOutOfBoundsException.class, () -> mill.mill.code(index, true));
    }
  }

  /** "an argument (0 where none is named)", also where an earlier program had one. */
  private static void argumentsThatAreNotNamed() {
    Mill mill = mill();
    mill.compile("let x = 9 + a - 8 band row line 7 7 7 7 7 7 7 7 7 7 7 7 7 7 7 7 7 end");
    String[] expressions = {"a + a", "a - a", "a * a", "a / a", "a % a", "t & t", "a = a", "a <> a", "a < a", "a > a", "a <= a",
        "a >= a", "not a", "-a", "len(t)", "upper(t)", "part(t, a, a)", "text(a)", "money(a)", "abs(a)", "least(a, a)", "most(a, a)"};
    int[] codes = {6, 7, 8, 9, 10, 11, 12, 13, 14, 15, 16, 17, 18, 19, 20, 21, 22, 23, 24, 25, 26, 27};
    for (int i = 0; i < codes.length; i++) {
      mill.compile("let x = " + expressions[i]);
      int last = mill.mill.codeSize() - 2;
      CHECKS.same("promise 12: code of " + expressions[i], mill.mill.code(last, false), codes[i]);
      CHECKS.same("promise 12: argument of " + expressions[i], mill.mill.code(last, true), 0);
      CHECKS.same("promise 12: DONE of " + expressions[i], mill.mill.code(last + 1, false), 30);
      CHECKS.same("promise 12: argument of DONE", mill.mill.code(last + 1, true), 0);
    }
  }

  /** "the texts of the program are numbered from 0 as they stand in it." */
  private static void numbersOfTexts() {
    Mill mill = mill();
    mill.compile("let x = \"p\" & \"q\" let y = \"p\" total s = last \"\" band title line \"r\" if \"s\" = \"s\" then line \"t\" end end");
    CHECKS.same("promise 12: texts", mill.code(), "1 1:1 11 30 1:2 30 1:3 30 1:4 30 1:5 1:6 12 30 1:7 30");
    mill.value("\"v\" & \"w\"");
    CHECKS.same("promise 12: those of evaluate do not count", mill.code(),
        "1 1:1 11 30 1:2 30 1:3 30 1:4 30 1:5 1:6 12 30 1:7 30");
    mill.mill.run();
    CHECKS.same("promise 19: they stay", mill.line(1, 1) + mill.line(1, 2), "rt");
    mill.compile("let x = \"z\"");
    CHECKS.same("promise 12: from 0 again", mill.code(), "1 30");
    StringBuilder program = new StringBuilder("band title line at 1");
    for (int i = 0; i < 493; i++) {
      program.append(i == 492 ? "\"last\"" : "\"" + i % 10 + "\"");
    }
    CHECKS.same("promise 9: 493 texts", mill.error(program + "end"), "0@-1");
    CHECKS.same("promise 12: the first one", mill.mill.code(0, true), 0);
    CHECKS.same("promise 12: the last one", mill.mill.code(2 * 492, true), 492);
    mill.mill.run();
    CHECKS.same("promise 19: the first ones", mill.mill.byteAt(1, 1, 1), '0');
    CHECKS.same("promise 19: the fortieth", mill.mill.byteAt(1, 1, 40), '9');
  }

  /** "COLUMN c", numbered from 0 to 7. */
  private static void numbersOfColumns() {
    Mill mill = new Mill().columns("a", "b", "c", "d", "e", "f", "g", "h");
    mill.compile("let x = a + b + c + d + e + f + g + h");
    CHECKS.same("promise 12: eight columns", mill.code(), "2 2:1 6 2:2 6 2:3 6 2:4 6 2:5 6 2:6 6 2:7 6 30");
  }

  /** "LET l. TOTAL t (all numbered in the order of their declarations)", from 0 to 7. */
  private static void numbersOfLetsAndTotals() {
    Mill mill = mill();
    StringBuilder program = new StringBuilder();
    StringBuilder due = new StringBuilder();
    for (int i = 0; i < 8; i++) {
      program.append("total s").append(i).append(" = sum 1 let x").append(i).append(" = 2 ");
      due.append("0:1 30 0:2 30 ");
    }
    program.append("band row line x0 x7 s0 s7 end");
    CHECKS.same("promise 9: eight of each", mill.error(program.toString()), "0@-1");
    CHECKS.same("promise 12: eight of each", mill.code(), due + "3 30 3:7 30 4 30 4:7 30");
  }

  /** "SPECIAL s: 0 pageno, 1 pages, 2 rowno." */
  private static void specials() {
    Mill mill = mill();
    mill.compile("let x = rowno band row line pageno pages rowno end");
    CHECKS.same("promise 12: specials", mill.code(), "5:2 30 5 30 5:1 30 5:2 30");
  }

  /** "ahead of a JOIN, each operand that is a number has a STR directly behind its instructions." */
  private static void strAheadOfJoin() {
    code("t & t", "2:1 2:1 11");
    code("a & t", "2 23 2:1 11");
    code("t & a", "2:1 2 23 11");
    code("a & a", "2 23 2 23 11");
    code("1 + 1 & 2 * 3", "0:2 23 0:6 23 11");
    code("(a = a) & (a and a)", "2 2 12 23 2 29:10 2 29:10 0:1 28:11 0 23 11");
    code("text(a) & money(a)", "2 23 2 24 11");
    code("len(t) & -a", "2:1 20 23 2 19 23 11");
    code("rowno & \"\"", "5:2 23 1 11");
  }

  /** "JUMP a: the instruction a comes next. SKIP a", in the one row of instructions. */
  private static void jumps() {
    code("a and a", "2 29:6 2 29:6 0:1 28:7 0");
    code("a or a", "2 29:4 0:1 28:7 2 18 18");
    Mill mill = mill();
    mill.compile("let x = 1 let y = a and x let z = a or y");
    CHECKS.same("promise 12: in the second and third expression", mill.code(),
        "0:1 30 2 29:8 3 29:8 0:1 28:9 0 30 2 29:14 0:1 28:17 3:1 18 18 30");
    code("a and a or a and a",
        "2 29:6 2 29:6 0:1 28:7 0 29:10 0:1 28:19 2 29:16 2 29:16 0:1 28:17 0 18 18");
    code("a and (a or a)", "2 29:12 2 29:6 0:1 28:9 2 18 18 29:12 0:1 28:13 0");
  }

  /** "so are such parts within others (the greatest possible ones)." */
  private static void greatestParts() {
    code("5", "0:5");
    code("((5))", "0:5");
    code("-5", "0:-5");
    code("not 5", "0");
    code("1 + 2 - 3 * 4 / 5 % 6", "0:1");
    code("(1 < 2) = 1", "0:1");
    code("(1 <> 1) + (2 >= 2) * 10 - (3 <= 2) - (1 > 0)", "0:9");
    code("- - -(not not 7)", "0:-1");
  }

  private static void partsThatAreNotSimplified() {
    code("a + 1 + 2", "2 0:1 6 0:2 6");
    code("1 + 2 + a", "0:3 2 6");
    code("1 + (2 + a)", "0:1 0:2 2 6 6");
    code("a + (1 + 2) * 3", "2 0:9 6");
    code("(1 + 2) * a + (3 - 4)", "0:3 2 8 0:-1 6");
    code("-(1 + 2) * -a", "0:-3 2 19 8");
    code("rowno + (1 + 1)", "5:2 0:2 6");
    code("(1 + 1) & (2 + 2)", "0:2 23 0:4 23 11");
    code("1 + 1 and 2 + 2", "0:2 29:6 0:4 29:6 0:1 28:7 0");
    code("1 + 1 or 2 + 2", "0:2 29:4 0:1 28:7 0:4 18 18");
    code("not (1 and 1)", "0:1 29:6 0:1 29:6 0:1 28:7 0 18");
    code("-(1 or 1)", "0:1 29:4 0:1 28:7 0:1 18 18 19");
    code("abs(1 - 2) + (1 + 1)", "0:-1 25 0:2 6");
    code("least(1 + 1, 2 + 2) + 1", "0:2 0:4 26 0:1 6");
    code("most(1, 2) * (2 * 3)", "0:1 0:2 27 0:6 8");
    code("part(\"a\", 1 - 1, 2 - 1)", "1 0 0:1 22");
    code("len(\"\") + 1 - 1", "1 20 0:1 6 0:1 7");
    code("\"a\" = \"a\"", "1 1:1 12");
    code("(\"a\" < \"b\") + (1 < 2)", "1 1:1 14 0:1 6");
    code("text(1 + 1)", "0:2 23");
    code("money(10 * 10)", "0:100 24");
    code("upper(\"a\")", "1 21");
  }

  /** "without a / or % by 0 in it". */
  private static void divisionsBy0() {
    code("1 / 0", "0:1 0 9");
    code("1 % 0", "0:1 0 10");
    code("0 / 1", "0");
    code("0 % 1", "0");
    code("0 / 0", "0 0 9");
    code("1 / (3 - 3)", "0:1 0 9");
    code("1 / -0", "0:1 0 9");
    code("1 + 1 / 0", "0:1 0:1 0 9 6");
    code("2 * 3 + 4 % (1 - 1) - (5 + 6)", "0:6 0:4 0 10 6 0:11 7");
    code("not (1 / 0)", "0:1 0 9 18");
    code("-(1 % 0)", "0:1 0 10 19");
    code("1 / 0 = 1 / 0", "0:1 0 9 0:1 0 9 12");
    code("1 / (1 / 0)", "0:1 0:1 0 9 9");
    code("0 * (1 / 0)", "0 0:1 0 9 8");
    code("1 / 0 / 0", "0:1 0 9 0 9");
    code("(1 / 1) / (1 / 2)", "0:1 0 9");
  }

  /** "Numbers are 64-bit integers; what is reckoned with them wraps around." */
  private static void simplifyingWraps() {
    long square = 999999999L * 999999999L;
    code("999999999 * 999999999 * 10", "0:" + square * 10);
    code("999999999 * 999999999 * 999999999", "0:" + square * 999999999L);
    String least = "65536 * 65536 * 65536 * 32768";
    code(least, "0:" + Long.MIN_VALUE);
    code(least + " - 1", "0:" + Long.MAX_VALUE);
    code("-(" + least + ")", "0:" + Long.MIN_VALUE);
    code("-(" + least + ") - 1 + 1", "0:" + Long.MIN_VALUE);
    code(least + " / -1", "0:" + Long.MIN_VALUE);
    code(least + " % -1", "0");
    code(least + " * -1", "0:" + Long.MIN_VALUE);
    code(least + " * 2", "0");
    code(least + " - 1 < " + least, "0");
    code(least + " < " + least + " - 1", "0:1");
    code(least + " + (" + least + ")", "0");
  }

  /** A full tape has a code as long as any can be. */
  private static void longestCode() {
    String pieces = "a&1".repeat(661);
    String program = "band row line " + pieces + "end";
    Mill mill = mill();
    CHECKS.same("promise 9: " + program.length() + " bytes", mill.error(program), "0@-1");
    CHECKS.same("promise 11: its size", mill.mill.codeSize(), 6 * 661);
    CHECKS.same("promise 12: its first instruction", mill.mill.code(0, false), 2);
    CHECKS.same("promise 12: its last one", mill.mill.code(6 * 661 - 1, false), 30);
    CHECKS.same("promise 12: the one ahead of it", mill.mill.code(6 * 661 - 2, false), 11);
    CHECKS.fails("promise 12: behind it", IndexOutOfBoundsException.class, () -> mill.mill.code(6 * 661, false));
    CHECKS.same("promise 16: it runs", mill.cells(5, "").mill.run(), 0);
    CHECKS.same("promise 19: its last piece", mill.mill.byteAt(1, 1, 40), '1');
  }

  /** An expression of 100 tokens has as many instructions as any can have, and as many values on the pile. */
  private static void largestExpression() {
    String ors = "a" + " or a".repeat(49);
    Mill mill = mill();
    CHECKS.same("promise 9: 99 tokens", mill.error("let x = not " + ors), "0@-1");
    CHECKS.same("promise 11: 99 tokens", mill.mill.codeSize(), 50 + 49 * 5 + 1 + 1);
    CHECKS.same("promise 13: 99 tokens", mill.value("not " + ors), "1");
    CHECKS.same("promise 13: and", mill.value("1" + " and 1".repeat(49)), "1");
    CHECKS.same("promise 13: joins", mill.value("1" + "&1".repeat(49)), "'" + "1".repeat(50) + "'");
    String deep = "a < 1 + 1 * (".repeat(12) + "1" + ")".repeat(12);
    CHECKS.same("promise 13: values on the pile", mill.value(deep), "1");
    String parts = "least(1, 1 + 1 * ".repeat(10) + "5" + ")".repeat(10);
    CHECKS.same("promise 13: arguments on the pile", mill.value(parts), "1");
  }
}
