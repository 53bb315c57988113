import java.util.ArrayList;
import java.util.List;
import java.util.Random;
import java.util.function.ToIntFunction;

/** Many runs of calls on the class and on the model, which must answer alike. */
public final class ModelTest {
  private static final int RUNS = 1500;
  private static final int CALLS_OF_AN_OBJECT = 512;

  private RelocatingPatch used = new RelocatingPatch();
  private int calls = 0;
  private final List<ToIntFunction<RelocatingPatch>> changes = new ArrayList<>();
  private final Model model = new Model();
  private final Random random;
  private final int run;

  private ModelTest(int run) {
    this.run = run;
    this.random = new Random(run);
  }

  public static void main(String[] args) {
    for (int run = 0; run < RUNS; run++) {
      new ModelTest(run).play();
    }
    Check.end("ModelTest");
  }

  /**
   * The object that is asked. Nothing is promised after its 512th call, so then a new one takes
   * its place, which gets all calls that may have changed the old one.
   */
  private RelocatingPatch patch() {
    if (calls == CALLS_OF_AN_OBJECT) {
      used = new RelocatingPatch();
      for (ToIntFunction<RelocatingPatch> call : changes) {
        call.applyAsInt(used);
      }
      calls = changes.size();
    }
    calls++;
    return used;
  }

  private int change(ToIntFunction<RelocatingPatch> call) {
    int answer = call.applyAsInt(patch());
    changes.add(call);
    return answer;
  }

  private void play() {
    askAll();
    int images = 1 + random.nextInt(3);
    for (int image = 0; image < images; image++) {
      if (image > 0 && random.nextBoolean()) {
        due("clear()", change(p -> p.clear()), model.clear());
      }
      fill();
      int builds = 1 + random.nextInt(3);
      for (int k = 0; k < builds; k++) {
        build(1 + random.nextInt(random.nextBoolean() ? 3 : 16));
        askAll();
      }
      build(random.nextBoolean() ? 0 : 17);
      askAll();
      change();
    }
  }

  /** The new image is made of pieces of the old one, so that there are long and short blocks. */
  private void fill() {
    int oldSize = random.nextInt(random.nextBoolean() ? 12 : 52);
    int newSize = random.nextInt(random.nextBoolean() ? 12 : 52);
    int kinds = 1 + random.nextInt(random.nextBoolean() ? 4 : 40);
    int addressPercent = random.nextInt(60);
    int[] values = new int[Math.max(1, oldSize)];
    boolean[] flags = new boolean[values.length];
    for (int i = 0; i < oldSize; i++) {
      flags[i] = random.nextInt(100) < addressPercent;
      values[i] = flags[i] ? address() : random.nextInt(kinds);
      appendOld(values[i], flags[i]);
    }
    int done = 0;
    int pieceLimit = 1 + random.nextInt(10);
    while (done < newSize) {
      int start = random.nextInt(values.length);
      int length = 1 + random.nextInt(pieceLimit);
      int shift = random.nextInt(5) - 2;
      for (int k = start; k < start + length && k < values.length && done < newSize; k++, done++) {
        int value = flags[k] ? Math.max(0, Math.min(9999, values[k] + shift)) : values[k];
        appendNew(random.nextInt(12) == 0 ? random.nextInt(kinds) : value, flags[k]);
      }
    }
  }

  private int address() {
    return random.nextInt(6) == 0 ? 9990 + random.nextInt(10) : random.nextInt(50);
  }

  private void appendOld(int value, boolean address) {
    due("appendOld(" + value + ", " + address + ")", change(p -> p.appendOld(value, address)),
        model.appendOld(value, address));
  }

  private void appendNew(int value, boolean address) {
    due("appendNew(" + value + ", " + address + ")", change(p -> p.appendNew(value, address)),
        model.appendNew(value, address));
  }

  private void build(int minLength) {
    due("build(" + minLength + ")", change(p -> p.build(minLength)), model.build(minLength));
  }

  private void change() {
    int index = random.nextInt(50) - 1;
    int value = random.nextInt(10002) - 1;
    switch (random.nextInt(4)) {
      case 0 -> appendOld(value, random.nextBoolean());
      case 1 -> appendNew(value, random.nextBoolean());
      case 2 -> due("setNew(" + index + ", " + value + ")", change(p -> p.setNew(index, value)),
          model.setNew(index, value));
      default -> due("clear()", change(p -> p.clear()), model.clear());
    }
    askAll();
  }

  private void askAll() {
    due("oldLength()", patch().oldLength(), model.oldLength());
    due("newLength()", patch().newLength(), model.newLength());
    due("correctionCount()", patch().correctionCount(), model.correctionCount());
    due("literalCount()", patch().literalCount(), model.literalCount());
    due("patchSize()", patch().patchSize(), model.patchSize());
    due("unpredictedSize()", patch().unpredictedSize(), model.unpredictedSize());
    due("copyCount()", patch().copyCount(), model.copyCount());
    due("inPlaceSize()", patch().inPlaceSize(), model.inPlaceSize());
    int most = Math.max(model.oldLength(), model.newLength());
    for (int i = -1; i <= most + 1; i++) {
      askAt(i);
    }
    askAt(Integer.MIN_VALUE);
    askAt(Integer.MAX_VALUE);
    askPredictedAddress(9999);
    askPredictedAddress(10000);
    int steps = random.nextInt(most + 3) - 1;
    for (int i = -1; i <= most; i++) {
      askMemory(steps, i);
      askMemory(model.copyCount(), i);
    }
  }

  private void askAt(int i) {
    String at = "(" + i + ")";
    due("newValue" + at, patch().newValue(i), model.newValue(i));
    due("blockOldStart" + at, patch().blockOldStart(i), model.blockOldStart(i));
    due("blockNewStart" + at, patch().blockNewStart(i), model.blockNewStart(i));
    due("blockLength" + at, patch().blockLength(i), model.blockLength(i));
    due("blockOf" + at, patch().blockOf(i), model.blockOf(i));
    due("predictedValue" + at, patch().predictedValue(i), model.predictedValue(i));
    due("correctionIndex" + at, patch().correctionIndex(i), model.correctionIndex(i));
    due("copyStep" + at, patch().copyStep(i), model.copyStep(i));
    due("isDropped" + at, patch().isDropped(i), model.isDropped(i));
    due("patchedValue" + at, patch().patchedValue(i), model.patchedValue(i));
    askPredictedAddress(i);
  }

  private void askPredictedAddress(int address) {
    due("predictedAddress(" + address + ")", patch().predictedAddress(address),
        model.predictedAddress(address));
  }

  private void askMemory(int steps, int index) {
    due("memoryAfter(" + steps + ", " + index + ")", patch().memoryAfter(steps, index),
        model.memoryAfter(steps, index));
  }

  private void due(String call, int got, int want) {
    Check.due("run " + run + ": " + call, got, want);
  }
}
