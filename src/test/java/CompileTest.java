/** Promises 9 to 12: compile, errorAt, codeSize and code of programs that have no error. */
public final class CompileTest {
  private static final Checks CHECKS = new Checks();

  public static void main(String[] args) {
    compiling();
    theProgramIsGone();
    theTapeIsEmpty();
    sizes();
    codes();
    loads();
    operators();
    conditions();
    simplifying();
    orderOfTheProgram();
    tokens();
    longestProgram();
    manyTexts();
    manyPrograms();
    manyExpressions();
    CHECKS.end();
  }

  private static Mill mill() {
    return new Mill().columns("a", "t$");
  }

  private static void code(String expression, String due) {
    Mill mill = mill();
    String whole = "let x = " + expression;
    CHECKS.same("promise 12: " + whole, mill.error(whole), "0@-1");
    CHECKS.same("promise 12: " + whole, mill.code(), due + " 30");
  }

  private static void compiling() {
    Mill mill = mill();
    CHECKS.same("promise 9: empty", mill.error(""), "0@-1");
    CHECKS.same("promise 9: blanks", mill.error(" \n \n"), "0@-1");
    CHECKS.same("promise 9: everything", mill.error("page 60 40\norder a order down t order a order a\n"
        + "group a group t let x = a let y = x & t\n"
        + "total s = sum x per a total c = count y per page total m = most t per t\n"
        + "band title end band top line skip 1 end band bottom line at 60 end band before a end band before t end\n"
        + "band row keep if s then need 40 else eject end end end band after t end band after a end\n"
        + "band summary line pageno : 60 mid pages : 1 left y end"), "0@-1");
    CHECKS.same("promise 9: an error", mill.error("x"), "1@0");
    CHECKS.same("promise 10: no error any more", mill.error("page 10 4"), "0@-1");
    CHECKS.same("promise 10: an error of evaluate", mill.value("1 +"), "error 1@3");
    CHECKS.same("promise 10: none of evaluate", mill.value("1"), "1");
    CHECKS.same("promise 10: none of evaluate", mill.mill.errorAt(), -1);
    CHECKS.same("promise 10: 2", mill.error("let x = y"), "2@8");
    CHECKS.same("promise 10: 8 has no position", mill.value("1 / 0"), "error 8@-1");
    mill.error("let x = y");
    mill.columns("b");
    mill.cells(1, "", 3);
    CHECKS.same("promise 10: it stays", mill.mill.errorAt(), 8);
    CHECKS.fails("promise 10: evaluate throws", IndexOutOfBoundsException.class, () -> mill.mill.evaluate(1));
    CHECKS.same("promise 10: it stays", mill.mill.errorAt(), 8);
  }

  private static void theProgramIsGone() {
    Mill mill = mill();
    mill.compile("let x = 1 band title line \"a\" end");
    mill.mill.run();
    CHECKS.same("promise 9: an error", mill.compile("let x = "), 1);
    CHECKS.same("promise 11: no program", mill.mill.codeSize(), 0);
    CHECKS.same("promise 9: its run is gone", mill.mill.told(1), 0);
    CHECKS.fails("promise 9: the program is gone", IllegalStateException.class, mill.mill::run);
    CHECKS.fails("promise 12: no program", IndexOutOfBoundsException.class, () -> mill.mill.code(0, true));
    CHECKS.same("promise 9: again", mill.compile("let x = 1"), 0);
    CHECKS.same("promise 9: an error of meaning", mill.compile("let x = 1 & 1 let y = -x"), 3);
    CHECKS.same("promise 11: no program", mill.mill.codeSize(), 0);
    mill.compile("let x = 1");
    mill.value("2 + a");
    CHECKS.same("promise 11: evaluate leaves it", mill.mill.codeSize(), 2);
    CHECKS.same("promise 16: evaluate leaves it", mill.mill.run(), 0);
  }

  private static void theTapeIsEmpty() {
    Mill mill = mill();
    mill.compile("let x = 1");
    CHECKS.same("promise 9: tape behind compile", mill.mill.count(2), 0);
    mill.compile("let x = ");
    CHECKS.same("promise 9: tape behind an error", mill.mill.count(2), 0);
    CHECKS.same("promise 9: an empty program", mill.mill.compile(), 0);
    mill.value("1 + 1");
    CHECKS.same("promise 13: tape behind evaluate", mill.mill.count(2), 0);
    mill.value("1 +");
    CHECKS.same("promise 13: tape behind an error", mill.mill.count(2), 0);
    mill.tape("1");
    CHECKS.fails("promise 13: no row", IndexOutOfBoundsException.class, () -> mill.mill.evaluate(0));
    CHECKS.same("promise 13: the tape stays", mill.mill.count(2), 1);
  }

  private static void sizes() {
    Mill mill = mill();
    CHECKS.same("promise 11: none", mill.mill.codeSize(), 0);
    mill.compile("page 10 4");
    CHECKS.same("promise 11: no expressions", mill.mill.codeSize(), 0);
    CHECKS.fails("promise 12: no expressions", IndexOutOfBoundsException.class, () -> mill.mill.code(0, false));
    mill.compile("let x = a + 1 band row line x t : 3 end");
    CHECKS.same("promise 11: three expressions", mill.mill.codeSize(), 8);
    CHECKS.fails("promise 12: -1", IndexOutOfBoundsException.class, () -> mill.mill.code(-1, false));
    CHECKS.fails("promise 12: 8", IndexOutOfBoundsException.class, () -> mill.mill.code(8, true));
    CHECKS.same("promise 12: 7", mill.mill.code(7, false), 30);
    CHECKS.same("promise 12: 1", mill.mill.code(1, true), 1);
    CHECKS.same("promise 12: 1", mill.mill.code(1, false), 0);
  }

  private static void codes() {
    code("len(t)", "2:1 20");
    code("upper(t)", "2:1 21");
    code("part(t, a, 2)", "2:1 2 0:2 22");
    code("text(a)", "2 23");
    code("money(1)", "0:1 24");
    code("abs(-1)", "0:-1 25");
    code("least(1, 2)", "0:1 0:2 26");
    code("most(a, 2 + 3)", "2 0:5 27");
    code("-a", "2 19");
    code("not a", "2 18");
    code("- - -a", "2 19 19 19");
    code("a & t", "2 23 2:1 11");
    code("t & a", "2:1 2 23 11");
    code("a & a & a", "2 23 2 23 11 2 23 11");
    code("(a & a) & (a + a)", "2 23 2 23 11 2 2 6 23 11");
    code("1 + 2 & 3", "0:3 23 0:3 23 11");
    code("\"\" & \"x\"", "1 1:1 11");
  }

  private static void loads() {
    Mill mill = mill();
    mill.compile("let x = rowno let y = x let z = y & \"p\" & \"p\" total s = sum x total m = least z\n"
        + "band row line a t x y z s m pageno pages rowno \"p\" end");
    CHECKS.same("promise 12: loads", mill.code(), "5:2 30 3 30 3:1 23 1 11 1:1 11 30 3 30 3:2 30"
        + " 2 30 2:1 30 3 30 3:1 30 3:2 30 4 30 4:1 30 5 30 5:1 30 5:2 30 1:2 30");
  }

  private static void operators() {
    String[] numbers = {"+", "-", "*", "/", "%", "", "=", "<>", "<", ">", "<=", ">="};
    for (int i = 0; i < numbers.length; i++) {
      if (!numbers[i].isEmpty()) {
        code("a " + numbers[i] + " 7", "2 0:7 " + (6 + i));
      }
      if (i > 5) {
        code("t " + numbers[i] + " \"z\"", "2:1 1 " + (6 + i));
      }
    }
    code("a - 1 - 2", "2 0:1 7 0:2 7");
    code("a - (a - 2)", "2 2 0:2 7 7");
    code("a + a * a", "2 2 2 8 6");
    code("(a + a) * a", "2 2 6 2 8");
    code("-a * a", "2 19 2 8");
    code("not a + 1", "2 18 0:1 6");
    code("a + 1 < a * 2", "2 0:1 6 2 0:2 8 14");
    code("a / a % a * a", "2 2 9 2 10 2 8");
    code("a - -a", "2 2 19 7");
    code("a-1", "2 0:1 7");
    code("a<=1", "2 0:1 16");
    code("a<>1", "2 0:1 13");
    code("a<-1", "2 0:-1 14");
  }

  private static void conditions() {
    code("a and 2", "2 29:6 0:2 29:6 0:1 28:7 0");
    code("a or 2", "2 29:4 0:1 28:7 0:2 18 18");
    code("a and a and a", "2 29:6 2 29:6 0:1 28:7 0 29:12 2 29:12 0:1 28:13 0");
    code("a or a or a", "2 29:4 0:1 28:7 2 18 18 29:10 0:1 28:13 2 18 18");
    code("1 or a and 3", "0:1 29:4 0:1 28:13 2 29:10 0:3 29:10 0:1 28:11 0 18 18");
    code("a = 1 or a = 2", "2 0:1 12 29:6 0:1 28:11 2 0:2 12 18 18");
    code("not (a and a)", "2 29:6 2 29:6 0:1 28:7 0 18");
    Mill mill = mill();
    mill.compile("let x = 1 let y = a or x");
    CHECKS.same("promise 12: jumps are numbers of instructions", mill.code(), "0:1 30 2 29:6 0:1 28:9 3 18 18 30");
  }

  private static void simplifying() {
    code("1 + 2 * 3", "0:7");
    code("(1 + 2) * 3", "0:9");
    code("1 - 2 - 3", "0:-4");
    code("7 / -2", "0:-3");
    code("-7 % 2", "0:-1");
    code("7 % -2", "0:1");
    code("not 5", "0");
    code("not 0", "0:1");
    code("1 < 2", "0:1");
    code("2 <= 1", "0");
    code("(1 <> 2) + (3 = 3) + (2 > 1) + (1 >= 1)", "0:4");
    code("((((5))))", "0:5");
    code("999999999 * 999999999 * 999999999 * 999999999", "0:" + 999999999L * 999999999L * 999999999L * 999999999L);
    code("1 / 0", "0:1 0 9");
    code("1 % (2 - 2)", "0:1 0 10");
    code("2 * 3 + 1 / 0", "0:6 0:1 0 9 6");
    code("-(1 / 0)", "0:1 0 9 19");
    code("0 * (1 / 0) + 1", "0 0:1 0 9 8 0:1 6");
    code("1 + 2 + a + 3 + 4", "0:3 2 6 0:3 6 0:4 6");
    code("a + (3 + 4)", "2 0:7 6");
    code("a * 2 * 3", "2 0:2 8 0:3 8");
    code("-(2 + 3) + rowno", "0:-5 5:2 6");
    code("abs(2 + 3) + 1", "0:5 25 0:1 6");
    code("\"a\" = \"a\"", "1 1:1 12");
    code("1 and 1 + 1", "0:1 29:6 0:2 29:6 0:1 28:7 0");
    code("(1 or 0) + (1 + 1)", "0:1 29:4 0:1 28:7 0 18 18 0:2 6");
    code("least(1 + 1, 2 * 3)", "0:2 0:6 26");
    code("1 & 2 * 2", "0:1 23 0:4 23 11");
    code("len(\"a\") + (1 + 1)", "1 20 0:2 6");
  }

  private static void orderOfTheProgram() {
    Mill mill = mill();
    mill.compile("total s = sum 1 let x = 2 total c = count 3 band summary line 4 : 1 at 2 5 if 6 then line 7"
        + " else line 8 end keep line 9 end end band title line 10 end");
    CHECKS.same("promise 12: order", mill.code(),
        "0:1 30 0:2 30 0:3 30 0:4 30 0:5 30 0:6 30 0:7 30 0:8 30 0:9 30 0:10 30");
    mill.compile("band row line a -1 end");
    CHECKS.same("promise 12: a - is an operator", mill.code(), "2 0:1 7 30");
    mill.compile("band row line a (1) a : 3 -1 end");
    CHECKS.same("promise 12: pieces", mill.code(), "2 30 0:1 30 2 30 0:-1 30");
  }

  private static void tokens() {
    Mill mill = mill();
    CHECKS.same("longest token", mill.error("let x=1let y=x"), "0@-1");
    CHECKS.same("longest token", mill.error("letx=1"), "1@0");
    CHECKS.same("no blank between text and name", mill.error("band row line t\"x\"a\"y\"\"z\"end"), "0@-1");
    CHECKS.same("no blank", mill.code(), "2:1 30 1 30 2 30 1:1 30 1:2 30");
    CHECKS.same("line ends are blanks", mill.error("\nlet\nx\n=\n1\n"), "0@-1");
    CHECKS.same("nine digits", mill.error("let x = 000000001"), "0@-1");
    CHECKS.same("nine digits", mill.code(), "0:1 30");
    CHECKS.same("twenty bytes", mill.error("let x = \" !#~aA0123456789....\""), "0@-1");
    CHECKS.same("eight letters", mill.error("let abcdefg8 = 1 let abcdefg9 = abcdefg8"), "0@-1");
    CHECKS.same("< and >", mill.error("let x = 1<2 let y = 2>1 let z = 1>=1 let q = 1<>1"), "0@-1");
  }

  /** No byte of the tape makes more than two instructions. */
  private static void longestProgram() {
    Mill mill = mill();
    StringBuilder program = new StringBuilder("band row line ");
    int pieces = 0;
    while (program.length() + 7 <= 2000) {
      program.append("a&1");
      pieces++;
    }
    program.append(" end");
    CHECKS.same("promise 9: a full tape", mill.error(program.toString()), "0@-1");
    CHECKS.same("promise 11: a full tape", mill.mill.codeSize(), 6 * pieces);
    CHECKS.same("promise 12: its end", mill.mill.code(6 * pieces - 1, false), 30);
    CHECKS.same("promise 16: a full tape", mill.cells(12, "t").mill.run(), 0);
    CHECKS.same("promise 19: a full tape", mill.line(1, 1), "1211211211211211211211211211211211211211");
  }

  private static void manyTexts() {
    Mill mill = mill();
    StringBuilder program = new StringBuilder("band title line\"a\" at 1");
    int texts = 1;
    while (program.length() + 2 + 8 <= 2000) {
      program.append("\"\"");
      texts++;
    }
    program.append("\"bcd\"end");
    CHECKS.same("promise 9: many texts", mill.error(program.toString()), "0@-1");
    CHECKS.same("promise 12: the last text", mill.mill.code(2 * texts, true), texts);
    mill.mill.run();
    CHECKS.same("promise 19: the last text", mill.line(1, 1), "bcd");
    CHECKS.same("promise 9: two texts", mill.error("let x = \"p\" & \"q\""), "0@-1");
    CHECKS.same("promise 12: they are numbered from 0", mill.code(), "1 1:1 11 30");
  }

  /** What one program takes up is free again for the next one. */
  private static void manyPrograms() {
    Mill mill = mill();
    for (int i = 0; i < 4; i++) {
      CHECKS.same("promise 9: program " + i, mill.error("band title line " + "a ".repeat(800) + "end"), "0@-1");
      CHECKS.same("promise 11: program " + i, mill.mill.codeSize(), 1600);
    }
    CHECKS.same("promise 9: the last one", mill.error("band title line \"a\" line \"b\" end"), "0@-1");
    mill.mill.run();
    CHECKS.same("promise 20: its first line", mill.mill.lineSum(1, 1), Mill.sum("a", 40));
    CHECKS.same("promise 20: its second line", mill.mill.lineSum(1, 2), Mill.sum("b", 40));
  }

  /** What one expression takes up is free again for the next one. */
  private static void manyExpressions() {
    Mill mill = mill();
    for (int i = 0; i < 25; i++) {
      mill.tape("\"a\"" + "&\"b\"".repeat(49));
      CHECKS.same("promise 13: fifty texts " + i, mill.mill.evaluate(-1), 7);
      CHECKS.same("promise 14: fifty texts " + i, mill.mill.result(), 50);
    }
    CHECKS.same("promise 13: the last texts", mill.value("\"y\" & \"z\""), "'yz'");
    Mill other = mill();
    for (int i = 0; i < 4; i++) {
      other.tape("\"\"" + "&\"abcdefghij0123456789\"".repeat(49));
      CHECKS.same("promise 13: texts of twenty bytes " + i, other.mill.evaluate(-1), 7);
      CHECKS.same("promise 14: texts of twenty bytes " + i, other.mill.result(), 60);
    }
    CHECKS.same("promise 13: the last texts", other.value("\"y\" & \"z\""), "'yz'");
  }
}
