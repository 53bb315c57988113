import java.util.ArrayList;
import java.util.List;
import java.util.function.ToIntFunction;

/** The class and the model side by side: every call goes to both, and they must answer alike. */
final class Beside {
  private static final int CALLS_OF_AN_OBJECT = 512;

  private final String name;
  private final Model model = new Model();
  private final List<ToIntFunction<RelocatingPatch>> changes = new ArrayList<>();
  private RelocatingPatch used = new RelocatingPatch();
  private int calls = 0;

  Beside(String name) {
    this.name = name;
  }

  /**
   * The object that is asked. Nothing is promised after its 512th call, so then a new one takes
   * its place, which gets all calls that may have changed the old one.
   */
  private RelocatingPatch patch() {
    if (calls == CALLS_OF_AN_OBJECT) {
      used = new RelocatingPatch();
      for (ToIntFunction<RelocatingPatch> call : changes) {
        call.applyAsInt(used);
      }
      calls = changes.size();
    }
    calls++;
    return used;
  }

  private int change(ToIntFunction<RelocatingPatch> call) {
    int answer = call.applyAsInt(patch());
    changes.add(call);
    return answer;
  }

  void appendOld(int value, boolean address) {
    due("appendOld(" + value + ", " + address + ")", change(p -> p.appendOld(value, address)),
        model.appendOld(value, address));
  }

  void appendNew(int value, boolean address) {
    due("appendNew(" + value + ", " + address + ")", change(p -> p.appendNew(value, address)),
        model.appendNew(value, address));
  }

  void setNew(int index, int value) {
    due("setNew(" + index + ", " + value + ")", change(p -> p.setNew(index, value)),
        model.setNew(index, value));
  }

  void clear() {
    due("clear()", change(p -> p.clear()), model.clear());
  }

  void build(int minLength) {
    due("build(" + minLength + ")", change(p -> p.build(minLength)), model.build(minLength));
  }

  int memoryLength() {
    return Math.max(model.oldLength(), model.newLength());
  }

  int copyCount() {
    return model.copyCount();
  }

  /** All that the calls without steps show. */
  void askAll() {
    due("oldLength()", patch().oldLength(), model.oldLength());
    due("newLength()", patch().newLength(), model.newLength());
    due("correctionCount()", patch().correctionCount(), model.correctionCount());
    due("literalCount()", patch().literalCount(), model.literalCount());
    due("patchSize()", patch().patchSize(), model.patchSize());
    due("unpredictedSize()", patch().unpredictedSize(), model.unpredictedSize());
    due("copyCount()", patch().copyCount(), model.copyCount());
    due("inPlaceSize()", patch().inPlaceSize(), model.inPlaceSize());
    for (int i = -1; i <= memoryLength() + 1; i++) {
      askAt(i);
    }
    askAt(Integer.MIN_VALUE);
    askAt(Integer.MAX_VALUE);
    askPredictedAddress(9999);
    askPredictedAddress(10000);
  }

  /** The whole memory after some steps, and what lies next to it. */
  void askMemory(int steps) {
    for (int i = -1; i <= memoryLength(); i++) {
      due("memoryAfter(" + steps + ", " + i + ")", patch().memoryAfter(steps, i),
          model.memoryAfter(steps, i));
    }
  }

  private void askAt(int i) {
    String at = "(" + i + ")";
    due("newValue" + at, patch().newValue(i), model.newValue(i));
    due("blockOldStart" + at, patch().blockOldStart(i), model.blockOldStart(i));
    due("blockNewStart" + at, patch().blockNewStart(i), model.blockNewStart(i));
    due("blockLength" + at, patch().blockLength(i), model.blockLength(i));
    due("blockOf" + at, patch().blockOf(i), model.blockOf(i));
    due("predictedValue" + at, patch().predictedValue(i), model.predictedValue(i));
    due("correctionIndex" + at, patch().correctionIndex(i), model.correctionIndex(i));
    due("copyStep" + at, patch().copyStep(i), model.copyStep(i));
    due("isDropped" + at, patch().isDropped(i), model.isDropped(i));
    due("patchedValue" + at, patch().patchedValue(i), model.patchedValue(i));
    askPredictedAddress(i);
  }

  private void askPredictedAddress(int address) {
    due("predictedAddress(" + address + ")", patch().predictedAddress(address),
        model.predictedAddress(address));
  }

  private void due(String call, int got, int want) {
    Check.due(name + ": " + call, got, want);
  }
}
