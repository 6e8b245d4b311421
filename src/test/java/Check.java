import java.util.concurrent.Callable;

/** Counts the checks of one test, prints those that fail, and ends the test with its exit code. */
final class Check {
  private int passed = 0;
  private int failed = 0;

  void same(String what, Object due, Object got) {
    if (due.equals(got)) {
      passed++;
      return;
    }
    failed++;
    if (failed <= 50) {
      System.out.println(what + " answered " + got + ", due is " + due);
    }
  }

  /** What a call answers, as a text: the answer, or throws. and the exception's name. */
  static String outcome(Callable<?> call) {
    try {
      return String.valueOf(call.call());
    } catch (Exception thrown) {
      return "throws." + thrown.getClass().getSimpleName();
    }
  }

  void answers(String what, long due, Callable<?> call) {
    same(what, Long.toString(due), outcome(call));
  }

  void noPlace(String what, Callable<?> call) {
    same(what, "throws.IndexOutOfBoundsException", outcome(call));
  }

  void badArgument(String what, Callable<?> call) {
    same(what, "throws.IllegalArgumentException", outcome(call));
  }

  void badState(String what, Callable<?> call) {
    same(what, "throws.IllegalStateException", outcome(call));
  }

  void end(String test) {
    System.out.println(test + ": " + passed + " checks as due, " + failed + " not");
    if (failed > 0 || passed == 0) {
      System.exit(1);
    }
  }
}
