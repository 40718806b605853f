import java.util.function.Consumer;
import java.util.function.Supplier;

/** Holds a mill that refused a call against one that was made alike and never got it. */
final class Refusals {
  private final Checks checks;

  Refusals(Checks checks) {
    this.checks = checks;
  }

  /** The call on a mill of the maker throws this exception, and changes nothing. */
  void refused(String what, Supplier<Mill> maker, Class<? extends RuntimeException> due, Consumer<ReportMill> call) {
    ReportMill mill = maker.get().mill;
    checks.fails(what, due, () -> call.accept(mill));
    checks.same(what + ", and then", story(mill), story(maker.get().mill));
  }

  /** What a mill tells now, and behind calls that bring forth what it holds. */
  private static String story(ReportMill mill) {
    StringBuilder story = new StringBuilder(state(mill));
    story.append("\nevaluate ").append(answer(() -> mill.evaluate(-1))).append(state(mill));
    story.append("\nrun ").append(answer(mill::run)).append(state(mill));
    // The cells of a row that is not there yet show as soon as it is.
    for (int i = 0; i < 8; i++) {
      story.append("\nput ").append(answer(() -> mill.put(' ')));
    }
    story.append(state(mill));
    story.append("\nclear ").append(answer(mill::clear)).append(state(mill));
    return story.toString();
  }

  private static String state(ReportMill mill) {
    StringBuilder state = new StringBuilder(" digest ").append(mill.digest());
    state.append(" tape ").append(mill.count(2));
    state.append(" errorAt ").append(mill.errorAt());
    state.append(" result ").append(mill.result());
    for (int i = 0; i < 5; i++) {
      int index = i;
      state.append(' ').append(answer(() -> mill.resultByte(index)));
    }
    state.append(" size ").append(answer(() -> mill.size(false))).append(' ').append(answer(() -> mill.size(true)));
    state.append(" filled ").append(mill.filled());
    for (int i = 0; i < 4; i++) {
      int index = i;
      state.append(" of ").append(i).append(' ').append(answer(() -> mill.taken(index)));
      state.append(' ').append(answer(() -> mill.total(index))).append(' ').append(answer(() -> mill.broke(index)));
    }
    return state.toString();
  }

  private static String answer(Supplier<? extends Number> call) {
    try {
      return call.get().toString();
    } catch (RuntimeException thrown) {
      return thrown.getClass().getName();
    }
  }
}
