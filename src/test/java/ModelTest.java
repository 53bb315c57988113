import java.util.Random;

/** Many runs of calls on the class and on the model, which must answer alike. */
public final class ModelTest {
  private static final int RUNS = 1500;

  private final Beside both;
  private final Random random;

  private ModelTest(int run) {
    both = new Beside("run " + run);
    random = new Random(run);
  }

  public static void main(String[] args) {
    for (int run = 0; run < RUNS; run++) {
      new ModelTest(run).play();
    }
    Check.end("ModelTest");
  }

  private void play() {
    ask();
    int images = 1 + random.nextInt(3);
    for (int image = 0; image < images; image++) {
      if (image > 0 && random.nextBoolean()) {
        both.clear();
      }
      fill();
      int builds = 1 + random.nextInt(3);
      for (int k = 0; k < builds; k++) {
        both.build(1 + random.nextInt(random.nextBoolean() ? 3 : 16));
        ask();
      }
      both.build(random.nextBoolean() ? 0 : 17);
      ask();
      change();
    }
  }

  /** The new image is made of pieces of the old one, so that there are long and short blocks. */
  private void fill() {
    int oldSize = random.nextInt(random.nextBoolean() ? 12 : 52);
    int newSize = random.nextInt(random.nextBoolean() ? 12 : 52);
    int kinds = 1 + random.nextInt(random.nextBoolean() ? 4 : 40);
    int addressPercent = random.nextInt(60);
    int[] values = new int[Math.max(1, oldSize)];
    boolean[] flags = new boolean[values.length];
    for (int i = 0; i < oldSize; i++) {
      flags[i] = random.nextInt(100) < addressPercent;
      values[i] = flags[i] ? address() : random.nextInt(kinds);
      both.appendOld(values[i], flags[i]);
    }
    int done = 0;
    int pieceLimit = 1 + random.nextInt(10);
    while (done < newSize) {
      int start = random.nextInt(values.length);
      int length = 1 + random.nextInt(pieceLimit);
      int shift = random.nextInt(5) - 2;
      for (int k = start; k < start + length && k < values.length && done < newSize; k++, done++) {
        int value = flags[k] ? Math.max(0, Math.min(9999, values[k] + shift)) : values[k];
        both.appendNew(random.nextInt(12) == 0 ? random.nextInt(kinds) : value, flags[k]);
      }
    }
  }

  private int address() {
    return random.nextInt(6) == 0 ? 9990 + random.nextInt(10) : random.nextInt(50);
  }

  private void change() {
    int index = random.nextInt(50) - 1;
    int value = random.nextInt(10002) - 1;
    switch (random.nextInt(4)) {
      case 0 -> both.appendOld(value, random.nextBoolean());
      case 1 -> both.appendNew(value, random.nextBoolean());
      case 2 -> both.setNew(index, value);
      default -> both.clear();
    }
    ask();
  }

  private void ask() {
    both.askAll();
    both.askMemory(random.nextInt(both.memoryLength() + 3) - 1);
    both.askMemory(both.copyCount());
  }
}
