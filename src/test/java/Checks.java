/** Collects the answers of one test that are not the due ones. */
final class Checks {
  private int wrong;

  void same(String what, long got, long due) {
    if (got != due) {
      wrong++;
      System.out.println(what + " answered " + got + ", due is " + due);
    }
  }

  void same(String what, String got, String due) {
    if (!got.equals(due)) {
      wrong++;
      System.out.println(what + " answered <" + got + ">, due is <" + due + ">");
    }
  }

  /** The call has to throw exactly this exception. */
  void fails(String what, Class<? extends RuntimeException> due, Runnable call) {
    String got = "nothing";
    try {
      call.run();
    } catch (RuntimeException thrown) {
      got = thrown.getClass().getName();
    }
    same(what + " throws", got, due.getName());
  }

  void end() {
    if (wrong > 0) {
      System.out.println(wrong + " wrong answers");
      System.exit(1);
    }
  }
}
