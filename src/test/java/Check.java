/** Compares answers with those that are due, and ends a test with exit code 1 if one was wrong. */
final class Check {
  private static int wrong = 0;
  private static int asked = 0;

  private Check() {
  }

  static void due(String call, long got, long want) {
    asked++;
    if (got != want) {
      wrong++;
      System.out.println(call + " answered " + got + ", due is " + want);
    }
  }

  static void holds(String what, boolean holds) {
    asked++;
    if (!holds) {
      wrong++;
      System.out.println("does not hold: " + what);
    }
  }

  static void end(String test) {
    System.out.println(test + ": " + asked + " checks, " + wrong + " wrong");
    if (wrong != 0) {
      System.exit(1);
    }
  }
}
