import java.lang.reflect.InvocationTargetException;

/** Runs the main method of a test, and ends with exit code 1 if a call in it does not end. */
public final class Limited {
  private static final long MOST_MILLISECONDS = 300_000;

  private Limited() {
  }

  public static void main(String[] args) throws ReflectiveOperationException {
    Thread watch = new Thread(() -> giveUp(args[0]));
    watch.setDaemon(true);
    watch.start();
    try {
      Class.forName(args[0]).getMethod("main", String[].class).invoke(null, (Object) new String[0]);
    } catch (InvocationTargetException e) {
      e.getCause().printStackTrace();
      System.exit(1);
    }
  }

  private static void giveUp(String test) {
    try {
      Thread.sleep(MOST_MILLISECONDS);
    } catch (InterruptedException e) {
      return;
    }
    System.out.println(test + " does not end");
    Runtime.getRuntime().halt(1);
  }
}
