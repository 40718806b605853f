import java.util.List;

/**
 * Error 1: "the first token with which the tokens so far are not the beginning of a program (of evaluate: of an
 * expression)". Every token is tried behind the beginnings of programs, and has to be refused there at once, or not.
 */
public final class NextTokenTest {
  private static final Checks CHECKS = new Checks();

  private static final String DECLARATIONS = " page order group let total band ";
  private static final String ITEMS = " line skip need eject keep if ";
  private static final String FUNCTIONS = " len upper part text money abs least most ";
  private static final String FACTORS = " 1 \"x\" a pageno pages rowno ( - not " + FUNCTIONS;
  private static final String RELATIONS = " = <> < > <= >= ";
  private static final String OPERATORS = " + - & * / % and or ";
  private static final String SYMBOLS = " ( ) , : = + - * / % & < > <= >= <> ";

  public static void main(String[] args) {
    declarations();
    expressions();
    functions();
    totals();
    bands();
    lines();
    items();
    evaluations();
    CHECKS.end();
  }

  private static List<String> words(String text) {
    return List.of(text.trim().split(" +"));
  }

  private static List<String> allTokens() {
    return words(String.join(" ", Mill.KEYWORDS) + SYMBOLS + "a 1 \"x\" # abcdefghi 1234567890 \"");
  }

  /** Behind this beginning just the allowed tokens can stand. */
  private static void next(String beginning, String allowed) {
    List<String> due = words(allowed);
    for (String token : allTokens()) {
      Mill mill = new Mill().columns("a", "t$");
      String program = beginning + " " + token;
      String refused = "1@" + (beginning.length() + 1);
      CHECKS.same("promise 10: " + program, "" + refused.equals(mill.error(program)), "" + !due.contains(token));
    }
  }

  private static void declarations() {
    next("", DECLARATIONS);
    next("page", "1");
    next("page 10", "1");
    next("page 10 4", DECLARATIONS);
    next("order", "down a");
    next("order down", "a");
    next("order a", DECLARATIONS);
    next("order down a", DECLARATIONS);
    next("group", "a");
    next("group a", DECLARATIONS);
    next("let", "a");
    next("let x", "=");
    next("let x =", FACTORS);
  }

  private static void expressions() {
    next("let x = 1", OPERATORS + RELATIONS + DECLARATIONS);
    next("let x = a", OPERATORS + RELATIONS + DECLARATIONS);
    next("let x = \"x\"", OPERATORS + RELATIONS + DECLARATIONS);
    next("let x = rowno", OPERATORS + RELATIONS + DECLARATIONS);
    next("let x = (a)", OPERATORS + RELATIONS + DECLARATIONS);
    for (String operator : words(RELATIONS)) {
      next("let x = a " + operator, FACTORS);
      next("let x = a " + operator + " a", OPERATORS + DECLARATIONS);
      next("let x = a " + operator + " a + a", OPERATORS + DECLARATIONS);
    }
    for (String operator : words(OPERATORS)) {
      next("let x = a " + operator, FACTORS);
      next("let x = a " + operator + " a", OPERATORS + RELATIONS + DECLARATIONS);
    }
    next("let x = a = a and a", OPERATORS + RELATIONS + DECLARATIONS);
    next("let x = a = a or a", OPERATORS + RELATIONS + DECLARATIONS);
    next("let x = -", FACTORS);
    next("let x = not", FACTORS);
    next("let x = - a", OPERATORS + RELATIONS + DECLARATIONS);
    next("let x = (", FACTORS);
    next("let x = ( a", OPERATORS + RELATIONS + ")");
    next("let x = ( a = a", OPERATORS + ")");
    next("let x = ( a = a ) = a", OPERATORS + DECLARATIONS);
  }

  private static void functions() {
    for (String function : words(FUNCTIONS)) {
      next("let x = " + function, "(");
      next("let x = " + function + " (", FACTORS);
      next("let x = " + function + " ( a", OPERATORS + RELATIONS + ", )");
      next("let x = " + function + " ( a = a", OPERATORS + ", )");
      next("let x = " + function + " ( a ,", FACTORS);
      next("let x = " + function + " ( a , a", OPERATORS + RELATIONS + ", )");
      next("let x = " + function + " ( a )", OPERATORS + RELATIONS + DECLARATIONS);
    }
  }

  private static void totals() {
    next("total", "a");
    next("total x", "=");
    next("total x =", "sum count least most first last");
    for (String kind : words("sum count least most first last")) {
      next("total x = " + kind, FACTORS);
      next("total x = " + kind + " a", OPERATORS + RELATIONS + "per" + DECLARATIONS);
      next("total x = " + kind + " ( a", OPERATORS + RELATIONS + ")");
    }
    next("total x = sum a per", "a page");
    next("total x = sum a per page", DECLARATIONS);
    next("group a total x = sum a per a", DECLARATIONS);
  }

  private static void bands() {
    next("band", "title top bottom before row after summary");
    next("band before", "a");
    next("band after", "a");
    for (String band : List.of("title", "top", "bottom", "row", "summary", "before a", "after a")) {
      next("band " + band, ITEMS + "end");
      next("band " + band + " end", "band");
      next("band " + band + " line", FACTORS + ITEMS + "at end");
    }
    next("let x = a band row end", "band");
  }

  private static void lines() {
    next("band row line a", OPERATORS + RELATIONS + FACTORS + ITEMS + ": at end");
    next("band row line a = a", OPERATORS + FACTORS + ITEMS + ": at end");
    next("band row line at", "1");
    next("band row line at 1", FACTORS + ITEMS + "at end");
    next("band row line a :", "1");
    next("band row line a : 1", FACTORS + ITEMS + "left right mid at end");
    for (String side : List.of("left", "right", "mid")) {
      next("band row line a : 1 " + side, FACTORS + ITEMS + "at end");
    }
    next("band row line a line", FACTORS + ITEMS + "at end");
  }

  private static void items() {
    next("band row skip", "1");
    next("band row need", "1");
    next("band row skip 1", ITEMS + "end");
    next("band row need 1", ITEMS + "end");
    next("band row eject", ITEMS + "end");
    next("band row keep", ITEMS + "end");
    next("band row keep end", ITEMS + "end");
    next("band row keep skip 1", ITEMS + "end");
    next("band row if", FACTORS);
    next("band row if a", OPERATORS + RELATIONS + "then");
    next("band row if a = a", OPERATORS + "then");
    next("band row if a then", ITEMS + "else end");
    next("band row if a then line a", OPERATORS + RELATIONS + FACTORS + ITEMS + ": at else end");
    next("band row if a then else", ITEMS + "end");
    next("band row if a then else skip 1", ITEMS + "end");
    next("band row if a then end", ITEMS + "end");
    next("band row if a then keep", ITEMS + "end");
    next("band row keep if a then", ITEMS + "else end");
    next("band row if a then if a then end", ITEMS + "else end");
  }

  /** Behind this beginning of an expression for evaluate just the allowed tokens can stand. */
  private static void nextOfEvaluate(String beginning, String allowed) {
    List<String> due = words(allowed);
    for (String token : allTokens()) {
      String expression = beginning + " " + token;
      String refused = "error 1@" + (beginning.length() + 1);
      String value = new Mill().columns("a", "t$").value(expression);
      CHECKS.same("promise 13: " + expression, "" + refused.equals(value), "" + !due.contains(token));
    }
  }

  private static void evaluations() {
    nextOfEvaluate("", FACTORS);
    nextOfEvaluate("a", OPERATORS + RELATIONS);
    nextOfEvaluate("a = a", OPERATORS);
    nextOfEvaluate("a +", FACTORS);
    nextOfEvaluate("(", FACTORS);
    nextOfEvaluate("( a", OPERATORS + RELATIONS + ")");
    nextOfEvaluate("( a )", OPERATORS + RELATIONS);
    nextOfEvaluate("len ( a", OPERATORS + RELATIONS + ", )");
  }
}
