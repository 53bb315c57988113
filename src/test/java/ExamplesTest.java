/** The four examples of the document, and the one in README.md. */
public final class ExamplesTest {
  private ExamplesTest() {
  }

  public static void main(String[] args) {
    movedByOneWord();
    wordsThatChangePlaces();
    lowestOldStart();
    errorsAndEmptyImages();
    readme();
    Check.end("ExamplesTest");
  }

  private static void movedByOneWord() {
    RelocatingPatch p = new RelocatingPatch();
    Check.due("1 appendOld(1, false)", p.appendOld(1, false), 0);
    Check.due("1 appendOld(2, false)", p.appendOld(2, false), 1);
    Check.due("1 appendOld(0, true)", p.appendOld(0, true), 2);
    Check.due("1 appendNew(7, false)", p.appendNew(7, false), 0);
    Check.due("1 appendNew(1, false)", p.appendNew(1, false), 1);
    Check.due("1 appendNew(2, false)", p.appendNew(2, false), 2);
    Check.due("1 appendNew(1, true)", p.appendNew(1, true), 3);
    Check.due("1 build(2)", p.build(2), 1);
    Check.due("1 blockOldStart(0)", p.blockOldStart(0), 0);
    Check.due("1 blockNewStart(0)", p.blockNewStart(0), 1);
    Check.due("1 blockLength(0)", p.blockLength(0), 3);
    Check.due("1 predictedAddress(0)", p.predictedAddress(0), 1);
    Check.due("1 predictedValue(3)", p.predictedValue(3), 1);
    Check.due("1 correctionCount()", p.correctionCount(), 0);
    Check.due("1 patchSize()", p.patchSize(), 4);
    Check.due("1 unpredictedSize()", p.unpredictedSize(), 6);
  }

  private static void wordsThatChangePlaces() {
    RelocatingPatch p = new RelocatingPatch();
    Check.due("2 appendOld(1, false)", p.appendOld(1, false), 0);
    Check.due("2 appendOld(2, false)", p.appendOld(2, false), 1);
    Check.due("2 appendNew(2, false)", p.appendNew(2, false), 0);
    Check.due("2 appendNew(1, false)", p.appendNew(1, false), 1);
    Check.due("2 build(1)", p.build(1), 2);
    Check.due("2 copyCount()", p.copyCount(), 1);
    Check.due("2 isDropped(0)", p.isDropped(0), 1);
    Check.due("2 isDropped(1)", p.isDropped(1), 0);
    Check.due("2 copyStep(0)", p.copyStep(0), 1);
    Check.due("2 memoryAfter(1, 0)", p.memoryAfter(1, 0), 1);
    Check.due("2 memoryAfter(1, 1)", p.memoryAfter(1, 1), 1);
    Check.due("2 patchedValue(0)", p.patchedValue(0), 2);
    Check.due("2 patchedValue(1)", p.patchedValue(1), 1);
    Check.due("2 inPlaceSize()", p.inPlaceSize(), 4);
  }

  private static void lowestOldStart() {
    RelocatingPatch p = new RelocatingPatch();
    Check.due("3 appendOld(5, false)", p.appendOld(5, false), 0);
    Check.due("3 appendOld(5, false)", p.appendOld(5, false), 1);
    Check.due("3 appendNew(5, false)", p.appendNew(5, false), 0);
    Check.due("3 build(1)", p.build(1), 1);
    Check.due("3 blockOldStart(0)", p.blockOldStart(0), 0);
  }

  private static void errorsAndEmptyImages() {
    RelocatingPatch p = new RelocatingPatch();
    Check.due("4 build(0)", p.build(0), -10001);
    Check.due("4 correctionCount()", p.correctionCount(), -10004);
    Check.due("4 appendNew(10000, false)", p.appendNew(10000, false), -10001);
    Check.due("4 setNew(0, 10000)", p.setNew(0, 10000), -10003);
    Check.due("4 build(1)", p.build(1), 0);
    Check.due("4 patchedValue(0)", p.patchedValue(0), -10003);
    Check.due("4 memoryAfter(1, 0)", p.memoryAfter(1, 0), -10001);
    Check.due("4 predictedAddress(10000)", p.predictedAddress(10000), -10001);
    Check.due("4 predictedAddress(12)", p.predictedAddress(12), 12);
  }

  private static void readme() {
    RelocatingPatch patch = new RelocatingPatch();
    Check.due("README appendOld(1, false)", patch.appendOld(1, false), 0);
    Check.due("README appendOld(0, true)", patch.appendOld(0, true), 1);
    Check.due("README appendNew(7, false)", patch.appendNew(7, false), 0);
    Check.due("README appendNew(1, false)", patch.appendNew(1, false), 1);
    Check.due("README appendNew(1, true)", patch.appendNew(1, true), 2);
    Check.due("README build(2)", patch.build(2), 1);
    Check.due("README blockNewStart(0)", patch.blockNewStart(0), 1);
    Check.due("README predictedAddress(0)", patch.predictedAddress(0), 1);
    Check.due("README correctionCount()", patch.correctionCount(), 0);
    Check.due("README patchSize()", patch.patchSize(), 4);
    Check.due("README unpredictedSize()", patch.unpredictedSize(), 6);
    Check.due("README copyStep(0)", patch.copyStep(0), 0);
    Check.due("README memoryAfter(0, 1)", patch.memoryAfter(0, 1), 0);
    Check.due("README memoryAfter(1, 1)", patch.memoryAfter(1, 1), 1);
    Check.due("README patchedValue(2)", patch.patchedValue(2), 1);
  }
}
