import java.util.ArrayList;
import java.util.List;
import java.util.function.Supplier;

/**
 * "An error changes nothing": in many states, every call that is refused answers the error that
 * the document lists first, and leaves all that other calls show as it was. An object that was
 * refused a call is compared with a twin that was not.
 */
public final class RefusalTest {
  /** An object is used for at most 512 calls, so the twins are made anew for every so many. */
  private static final int CALLS_OF_A_TWIN = 300;
  private static final int[] BAD_VALUES = {-1, 10000, Images.MIN, Images.MAX};

  private interface Call {
    int on(RelocatingPatch p);
  }

  private record Named(String name, Call call) {
  }

  private record Refusal(String name, Call call, int due) {
  }

  private final String state;
  private final Supplier<RelocatingPatch> maker;
  private final boolean built;
  private final int oldLength;
  private final int newLength;
  private final int memoryLength;
  private final List<Refusal> refusals = new ArrayList<>();

  private RefusalTest(String state, boolean built, Supplier<RelocatingPatch> maker) {
    this.state = state;
    this.built = built;
    this.maker = maker;
    oldLength = maker.get().oldLength();
    newLength = maker.get().newLength();
    memoryLength = Math.max(oldLength, newLength);
    refuseImages();
    refuseBlocks();
    refusePrediction();
    refuseInPlace();
  }

  public static void main(String[] args) {
    new RefusalTest("a new object", false, RelocatingPatch::new).play();
    new RefusalTest("empty and built", true, () -> Images.built("", "", 1)).play();
    new RefusalTest("not built", false, () -> Images.of("@1 2 3", "2 3 @4 5")).play();
    new RefusalTest("built", true, () -> Images.built(
        "1 2 @0 @6 70 4 @2 @9 8 @0", "4 @5 @9 77 1 2 @6 @1 78 8 @4", 2)).play();
    new RefusalTest("built without blocks", true, () -> Images.built("1 2", "3 4 5", 1)).play();
    new RefusalTest("built without new words", true, () -> Images.built("1 2", "", 1)).play();
    new RefusalTest("built without old words", true, () -> Images.built("", "1 @2", 1)).play();
    new RefusalTest("changed since it was built", false, RefusalTest::changed).play();
    new RefusalTest("cleared since it was built", false, RefusalTest::cleared).play();
    new RefusalTest("full, not built", false,
        () -> Images.of(Images.up(0, 48), Images.same("@3", 48))).play();
    new RefusalTest("full, 48 blocks", true,
        () -> Images.built(Images.up(0, 48), Images.down(47, 48), 1)).play();
    new RefusalTest("full, 48 corrections", true,
        () -> Images.built(Images.same("@0", 48), Images.same("@1", 48), 16)).play();
    Check.end("RefusalTest");
  }

  private static RelocatingPatch changed() {
    RelocatingPatch p = Images.built("1 2 @3", "1 2 @3", 1);
    p.setNew(1, 2);
    return p;
  }

  private static RelocatingPatch cleared() {
    RelocatingPatch p = Images.built("1 2 @3", "1 2 @3", 1);
    p.clear();
    return p;
  }

  private void play() {
    List<Named> questions = questions();
    for (Refusal refusal : refusals) {
      Check.due(state + ": " + refusal.name(), refusal.call().on(maker.get()), refusal.due());
      compare(refusal, questions, false);
      // What the images hold shows only in what is built from them.
      compare(refusal, questions, true);
    }
    Check.holds(state + ": something is refused", refusals.size() > 40);
  }

  private void compare(Refusal refusal, List<Named> questions, boolean buildAgain) {
    for (int from = 0; from < questions.size(); from += CALLS_OF_A_TWIN) {
      RelocatingPatch refused = maker.get();
      RelocatingPatch twin = maker.get();
      refusal.call().on(refused);
      if (buildAgain) {
        refused.build(1);
        twin.build(1);
      }
      int end = Math.min(questions.size(), from + CALLS_OF_A_TWIN);
      for (Named question : questions.subList(from, end)) {
        Check.due(state + ": " + question.name() + " behind " + refusal.name()
            + (buildAgain ? ", built again" : ""),
            question.call().on(refused), question.call().on(twin));
      }
    }
  }

  // ---- what other calls show

  private List<Named> questions() {
    List<Named> all = new ArrayList<>();
    all.add(new Named("oldLength()", RelocatingPatch::oldLength));
    all.add(new Named("newLength()", RelocatingPatch::newLength));
    all.add(new Named("correctionCount()", RelocatingPatch::correctionCount));
    all.add(new Named("literalCount()", RelocatingPatch::literalCount));
    all.add(new Named("patchSize()", RelocatingPatch::patchSize));
    all.add(new Named("unpredictedSize()", RelocatingPatch::unpredictedSize));
    all.add(new Named("copyCount()", RelocatingPatch::copyCount));
    all.add(new Named("inPlaceSize()", RelocatingPatch::inPlaceSize));
    for (int i = 0; i <= memoryLength; i++) {
      askAt(all, i);
    }
    int copies = Math.max(0, maker.get().copyCount());
    for (int steps = 0; steps <= copies; steps += Math.max(1, copies / 3)) {
      for (int i = 0; i < memoryLength; i++) {
        int done = steps;
        int index = i;
        all.add(new Named("memoryAfter(" + done + ", " + index + ")",
            p -> p.memoryAfter(done, index)));
      }
    }
    return all;
  }

  private static void askAt(List<Named> all, int i) {
    String at = "(" + i + ")";
    all.add(new Named("newValue" + at, p -> p.newValue(i)));
    all.add(new Named("blockOldStart" + at, p -> p.blockOldStart(i)));
    all.add(new Named("blockNewStart" + at, p -> p.blockNewStart(i)));
    all.add(new Named("blockLength" + at, p -> p.blockLength(i)));
    all.add(new Named("blockOf" + at, p -> p.blockOf(i)));
    all.add(new Named("predictedAddress" + at, p -> p.predictedAddress(i)));
    all.add(new Named("predictedValue" + at, p -> p.predictedValue(i)));
    all.add(new Named("correctionIndex" + at, p -> p.correctionIndex(i)));
    all.add(new Named("copyStep" + at, p -> p.copyStep(i)));
    all.add(new Named("isDropped" + at, p -> p.isDropped(i)));
    all.add(new Named("patchedValue" + at, p -> p.patchedValue(i)));
  }

  // ---- what is refused

  private void refuse(String name, int due, Call call) {
    refusals.add(new Refusal(name, call, due));
  }

  private void refuseBuilt(String name, int due, Call call) {
    refuse(name, built ? due : Images.NOT_BUILT, call);
  }

  private static int[] outside(int count) {
    return new int[] {-1, count, count + 1, Images.MIN, Images.MAX};
  }

  private void refuseImages() {
    for (int bad : BAD_VALUES) {
      refuse("appendOld(" + bad + ", false)", Images.BAD_VALUE, p -> p.appendOld(bad, false));
      refuse("appendOld(" + bad + ", true)", Images.BAD_VALUE, p -> p.appendOld(bad, true));
      refuse("appendNew(" + bad + ", false)", Images.BAD_VALUE, p -> p.appendNew(bad, false));
      refuse("appendNew(" + bad + ", true)", Images.BAD_VALUE, p -> p.appendNew(bad, true));
    }
    for (int value : new int[] {0, 5, 9999}) {
      if (oldLength == Images.MOST) {
        refuse("appendOld(" + value + ", false)", Images.FULL, p -> p.appendOld(value, false));
        refuse("appendOld(" + value + ", true)", Images.FULL, p -> p.appendOld(value, true));
      }
      if (newLength == Images.MOST) {
        refuse("appendNew(" + value + ", false)", Images.FULL, p -> p.appendNew(value, false));
        refuse("appendNew(" + value + ", true)", Images.FULL, p -> p.appendNew(value, true));
      }
    }
    refuseSetNew();
    for (int index : outside(newLength)) {
      refuse("newValue(" + index + ")", Images.NO_SUCH_INDEX, p -> p.newValue(index));
    }
  }

  private void refuseSetNew() {
    for (int index : outside(newLength)) {
      for (int value : new int[] {0, 9999, -1, 10000, Images.MIN, Images.MAX}) {
        refuse("setNew(" + index + ", " + value + ")", Images.NO_SUCH_INDEX,
            p -> p.setNew(index, value));
      }
    }
    for (int bad : BAD_VALUES) {
      if (newLength > 0) {
        int last = newLength - 1;
        refuse("setNew(0, " + bad + ")", Images.BAD_VALUE, p -> p.setNew(0, bad));
        refuse("setNew(" + last + ", " + bad + ")", Images.BAD_VALUE, p -> p.setNew(last, bad));
      }
    }
  }

  private void refuseBlocks() {
    for (int minLength : new int[] {0, 17, -1, Images.MIN, Images.MAX}) {
      refuse("build(" + minLength + ")", Images.BAD_VALUE, p -> p.build(minLength));
    }
    for (int block : outside(blockCount())) {
      String at = "(" + block + ")";
      refuseBuilt("blockOldStart" + at, Images.NO_SUCH_INDEX, p -> p.blockOldStart(block));
      refuseBuilt("blockNewStart" + at, Images.NO_SUCH_INDEX, p -> p.blockNewStart(block));
      refuseBuilt("blockLength" + at, Images.NO_SUCH_INDEX, p -> p.blockLength(block));
      refuseBuilt("isDropped" + at, Images.NO_SUCH_INDEX, p -> p.isDropped(block));
    }
    for (int index : outside(newLength)) {
      refuseBuilt("blockOf(" + index + ")", Images.NO_SUCH_INDEX, p -> p.blockOf(index));
    }
  }

  private int blockCount() {
    int blocks = 0;
    while (blocks < Images.MOST && maker.get().blockLength(blocks) >= 0) {
      blocks++;
    }
    return blocks;
  }

  private void refusePrediction() {
    for (int bad : BAD_VALUES) {
      refuseBuilt("predictedAddress(" + bad + ")", Images.BAD_VALUE, p -> p.predictedAddress(bad));
    }
    for (int index : outside(newLength)) {
      refuseBuilt("predictedValue(" + index + ")", Images.NO_SUCH_INDEX,
          p -> p.predictedValue(index));
    }
    for (int number : outside(Math.max(0, maker.get().correctionCount()))) {
      refuseBuilt("correctionIndex(" + number + ")", Images.NO_SUCH_INDEX,
          p -> p.correctionIndex(number));
    }
    if (!built) {
      refuse("correctionCount()", Images.NOT_BUILT, RelocatingPatch::correctionCount);
      refuse("literalCount()", Images.NOT_BUILT, RelocatingPatch::literalCount);
      refuse("patchSize()", Images.NOT_BUILT, RelocatingPatch::patchSize);
      refuse("unpredictedSize()", Images.NOT_BUILT, RelocatingPatch::unpredictedSize);
      refuse("predictedAddress(0)", Images.NOT_BUILT, p -> p.predictedAddress(0));
    }
  }

  private void refuseInPlace() {
    int copies = Math.max(0, maker.get().copyCount());
    for (int step : outside(copies)) {
      refuseBuilt("copyStep(" + step + ")", Images.NO_SUCH_INDEX, p -> p.copyStep(step));
    }
    for (int index : outside(newLength)) {
      refuseBuilt("patchedValue(" + index + ")", Images.NO_SUCH_INDEX, p -> p.patchedValue(index));
    }
    // All steps done is a number of steps too, so the first one refused is one more.
    for (int steps : outside(copies + 1)) {
      for (int index : new int[] {0, -1, memoryLength, Images.MIN, Images.MAX}) {
        refuseBuilt("memoryAfter(" + steps + ", " + index + ")", Images.BAD_VALUE,
            p -> p.memoryAfter(steps, index));
      }
    }
    for (int index : outside(memoryLength)) {
      refuseBuilt("memoryAfter(0, " + index + ")", Images.NO_SUCH_INDEX,
          p -> p.memoryAfter(0, index));
      refuseBuilt("memoryAfter(" + copies + ", " + index + ")", Images.NO_SUCH_INDEX,
          p -> p.memoryAfter(copies, index));
    }
    if (!built) {
      refuse("copyCount()", Images.NOT_BUILT, RelocatingPatch::copyCount);
      refuse("inPlaceSize()", Images.NOT_BUILT, RelocatingPatch::inPlaceSize);
      refuse("memoryAfter(0, 0)", Images.NOT_BUILT, p -> p.memoryAfter(0, 0));
    }
  }
}
