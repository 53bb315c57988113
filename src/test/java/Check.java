/** Compares answers with those that are due, and ends a test with exit code 1 if one was wrong. */
final class Check {
  /** A broken class may answer wrongly a million times; the first ones tell enough. */
  private static final int MOST_LINES = 100;
  private static int wrong = 0;
  private static int asked = 0;

  private Check() {
  }

  static void due(String call, long got, long want) {
    asked++;
    if (got != want) {
      tell(call + " answered " + got + ", due is " + want);
    }
  }

  static void holds(String what, boolean holds) {
    asked++;
    if (!holds) {
      tell("does not hold: " + what);
    }
  }

  private static void tell(String line) {
    wrong++;
    if (wrong <= MOST_LINES) {
      System.out.println(line);
    }
  }

  static void end(String test) {
    System.out.println(test + ": " + asked + " checks, " + wrong + " wrong");
    if (wrong != 0) {
      System.exit(1);
    }
  }
}
