/** The boundary cases of promises 1 to 8: the images, and the calls that change them. */
public final class ImageBoundsTest {
  private static final int[] BAD_VALUES = {
    -1, 10000, -9999, 10001, 65536, -65536, Images.MIN, Images.MIN + 1, Images.MAX - 1, Images.MAX};

  private interface Append {
    int to(RelocatingPatch p, int value, boolean address);
  }

  private ImageBoundsTest() {
  }

  public static void main(String[] args) {
    newObjectIsEmpty();
    newObjectIsNotBuilt();
    newObjectCanBeBuilt();
    objectsAreApart();
    appends("2 appendOld", RelocatingPatch::appendOld);
    appends("3 appendNew", RelocatingPatch::appendNew);
    oneImageFullTheOtherNot();
    fullImagesKeepTheirPatch();
    oldWordsAreKept();
    setNewIndexes();
    setNewValues();
    setNewIndexBeforeValue();
    setNewIsAChange();
    setNewRefusedIsNone();
    setNewFlagStays();
    clearCounts();
    clearIsAChange();
    clearMakesRoom();
    clearForgetsFlags();
    lengths();
    newValueIndexes();
    newValueNeedsNoPatch();
    Check.end("ImageBoundsTest");
  }

  // promise 1: "Both images are empty"
  private static void newObjectIsEmpty() {
    RelocatingPatch p = new RelocatingPatch();
    Check.due("1: oldLength()", p.oldLength(), 0);
    Check.due("1: newLength()", p.newLength(), 0);
    Check.due("1: newValue(0)", p.newValue(0), Images.NO_SUCH_INDEX);
    Check.due("1: setNew(0, 0)", p.setNew(0, 0), Images.NO_SUCH_INDEX);
    Check.due("1: clear()", p.clear(), 0);
    Check.due("1: first old word", p.appendOld(5, false), 0);
    Check.due("1: first new word", p.appendNew(5, false), 0);
  }

  // promise 1: "no patch is built"
  private static void newObjectIsNotBuilt() {
    allNotBuilt("1: new object", new RelocatingPatch());
  }

  private static void allNotBuilt(String name, RelocatingPatch p) {
    Check.due(name + ": blockOldStart", p.blockOldStart(0), Images.NOT_BUILT);
    Check.due(name + ": blockNewStart", p.blockNewStart(0), Images.NOT_BUILT);
    Check.due(name + ": blockLength", p.blockLength(0), Images.NOT_BUILT);
    Check.due(name + ": blockOf", p.blockOf(0), Images.NOT_BUILT);
    Check.due(name + ": predictedAddress", p.predictedAddress(0), Images.NOT_BUILT);
    Check.due(name + ": predictedValue", p.predictedValue(0), Images.NOT_BUILT);
    Check.due(name + ": correctionCount", p.correctionCount(), Images.NOT_BUILT);
    Check.due(name + ": correctionIndex", p.correctionIndex(0), Images.NOT_BUILT);
    Check.due(name + ": literalCount", p.literalCount(), Images.NOT_BUILT);
    Check.due(name + ": patchSize", p.patchSize(), Images.NOT_BUILT);
    Check.due(name + ": unpredictedSize", p.unpredictedSize(), Images.NOT_BUILT);
    Check.due(name + ": copyCount", p.copyCount(), Images.NOT_BUILT);
    Check.due(name + ": copyStep", p.copyStep(0), Images.NOT_BUILT);
    Check.due(name + ": isDropped", p.isDropped(0), Images.NOT_BUILT);
    Check.due(name + ": inPlaceSize", p.inPlaceSize(), Images.NOT_BUILT);
    Check.due(name + ": memoryAfter", p.memoryAfter(0, 0), Images.NOT_BUILT);
    Check.due(name + ": patchedValue", p.patchedValue(0), Images.NOT_BUILT);
  }

  // example 4: "a patch of two empty images"
  private static void newObjectCanBeBuilt() {
    RelocatingPatch p = new RelocatingPatch();
    Check.due("1: build(1) of nothing", p.build(1), 0);
    Check.due("1: patchSize of nothing", p.patchSize(), 0);
    Check.due("1: unpredictedSize of nothing", p.unpredictedSize(), 0);
    Check.due("1: inPlaceSize of nothing", p.inPlaceSize(), 0);
    Check.due("1: correctionCount of nothing", p.correctionCount(), 0);
    Check.due("1: literalCount of nothing", p.literalCount(), 0);
    Check.due("1: copyCount of nothing", p.copyCount(), 0);
    Check.due("1: build(16) of nothing", p.build(16), 0);
    allIndexesMissing(p);
  }

  private static void allIndexesMissing(RelocatingPatch p) {
    for (int i : new int[] {0, -1, 1, Images.MIN, Images.MAX}) {
      String at = " of nothing at " + i;
      Check.due("blockOldStart" + at, p.blockOldStart(i), Images.NO_SUCH_INDEX);
      Check.due("blockNewStart" + at, p.blockNewStart(i), Images.NO_SUCH_INDEX);
      Check.due("blockLength" + at, p.blockLength(i), Images.NO_SUCH_INDEX);
      Check.due("blockOf" + at, p.blockOf(i), Images.NO_SUCH_INDEX);
      Check.due("predictedValue" + at, p.predictedValue(i), Images.NO_SUCH_INDEX);
      Check.due("correctionIndex" + at, p.correctionIndex(i), Images.NO_SUCH_INDEX);
      Check.due("copyStep" + at, p.copyStep(i), Images.NO_SUCH_INDEX);
      Check.due("isDropped" + at, p.isDropped(i), Images.NO_SUCH_INDEX);
      Check.due("memoryAfter(0, .)" + at, p.memoryAfter(0, i), Images.NO_SUCH_INDEX);
      Check.due("patchedValue" + at, p.patchedValue(i), Images.NO_SUCH_INDEX);
    }
  }

  private static void objectsAreApart() {
    RelocatingPatch first = Images.built("1 2 3", "1 2", 1);
    RelocatingPatch second = new RelocatingPatch();
    allNotBuilt("1: beside a built one", second);
    Check.due("1: beside a filled one, old", second.oldLength(), 0);
    Check.due("1: beside a filled one, new", second.newLength(), 0);
    second.appendOld(9, true);
    second.build(16);
    Check.due("1: the first keeps its words", first.oldLength(), 3);
    Check.due("1: the first keeps its blocks", first.blockLength(0), 2);
  }

  // promises 2 and 3
  private static void appends(String name, Append append) {
    for (boolean address : new boolean[] {false, true}) {
      appendValues(name + " " + address, append, address);
      appendUntilFull(name + " " + address, append, address);
    }
    appendIsAChange(name, append);
    appendRefusedIsNone(name, append);
  }

  // "the value, 0 to 9999"; "Returns the index of the word; BAD_VALUE"
  private static void appendValues(String name, Append append, boolean address) {
    RelocatingPatch p = new RelocatingPatch();
    Check.due(name + ": lowest", append.to(p, 0, address), 0);
    Check.due(name + ": highest", append.to(p, 9999, address), 1);
    for (int bad : BAD_VALUES) {
      Check.due(name + ": value " + bad, append.to(p, bad, address), Images.BAD_VALUE);
    }
    Check.due(name + ": next to the lowest", append.to(p, 1, address), 2);
    Check.due(name + ": next to the highest", append.to(p, 9998, address), 3);
    Check.due(name + ": only words that were taken", p.oldLength() + p.newLength(), 4);
  }

  // "The image already has 48 words"; BAD_VALUE stands before FULL
  private static void appendUntilFull(String name, Append append, boolean address) {
    RelocatingPatch p = new RelocatingPatch();
    for (int i = 0; i < Images.MOST; i++) {
      Check.due(name + ": word " + i, append.to(p, i, address), i);
    }
    for (int value : new int[] {0, 47, 48, 9999}) {
      Check.due(name + ": full, value " + value, append.to(p, value, address), Images.FULL);
      Check.due(name + ": full, other flag", append.to(p, value, !address), Images.FULL);
    }
    for (int bad : BAD_VALUES) {
      Check.due(name + ": full, value " + bad, append.to(p, bad, address), Images.BAD_VALUE);
    }
    Check.due(name + ": 48 words", p.oldLength() + p.newLength(), Images.MOST);
  }

  // "No patch was built since an image was last changed"
  private static void appendIsAChange(String name, Append append) {
    RelocatingPatch p = Images.built("1 2", "1 2", 1);
    append.to(p, 1, false);
    allNotBuilt(name, p);
    p = Images.built("", "", 1);
    append.to(p, 0, true);
    allNotBuilt(name + " to nothing", p);
    RelocatingPatch filled = Images.built(Images.up(0, 47), Images.up(0, 47), 1);
    append.to(filled, 9999, false);
    allNotBuilt(name + ", the 48th word", filled);
  }

  private static void appendRefusedIsNone(String name, Append append) {
    RelocatingPatch p = Images.built("1 2", "1 2", 1);
    for (int bad : BAD_VALUES) {
      append.to(p, bad, true);
      Check.due(name + ": still built behind " + bad, p.patchSize(), 3);
    }
    Check.due(name + ": still two old words", p.oldLength(), 2);
    Check.due(name + ": still two new words", p.newLength(), 2);
  }

  private static void oneImageFullTheOtherNot() {
    RelocatingPatch p = Images.of(Images.up(0, 48), "");
    Check.due("3: room beside a full old image", p.appendNew(1, false), 0);
    Check.due("2: the old image is still full", p.appendOld(1, false), Images.FULL);
    p = Images.of("", Images.up(0, 48));
    Check.due("2: room beside a full new image", p.appendOld(1, false), 0);
    Check.due("3: the new image is still full", p.appendNew(1, false), Images.FULL);
    p = Images.of(Images.up(0, 48), Images.up(0, 48));
    Check.due("2: both full", p.appendOld(0, true), Images.FULL);
    Check.due("3: both full", p.appendNew(0, true), Images.FULL);
  }

  private static void fullImagesKeepTheirPatch() {
    RelocatingPatch p = Images.built(Images.up(0, 48), Images.up(0, 48), 16);
    p.appendOld(0, false);
    Check.due("2: FULL is no change", p.patchSize(), 3);
    p.appendNew(0, false);
    Check.due("3: FULL is no change", p.patchSize(), 3);
    p.appendOld(10000, false);
    p.appendNew(-1, false);
    Check.due("2, 3: BAD_VALUE when full is no change", p.patchSize(), 3);
    Check.due("2: first word", p.memoryAfter(0, 0), 0);
    Check.due("2: last word", p.memoryAfter(0, 47), 47);
    Check.due("3: first word", p.newValue(0), 0);
    Check.due("3: last word", p.newValue(47), 47);
  }

  // what was appended is seen in memory and, for the flags, in what matches
  private static void oldWordsAreKept() {
    RelocatingPatch p = Images.built("0 @9999 9999 @0", "@7 9999 0", 1);
    int[] values = {0, 9999, 9999, 0};
    for (int i = 0; i < values.length; i++) {
      Check.due("2: value " + i, p.memoryAfter(0, i), values[i]);
    }
    Images.block("2: flags", p, 0, 1, 0, 2);
    Images.block("2: flags", p, 1, 0, 2, 1);
  }

  // promise 4: "the index of the word"
  private static void setNewIndexes() {
    RelocatingPatch p = Images.of("1 2 3", "10 20");
    for (int index : new int[] {-1, 2, 3, 47, 48, Images.MIN, Images.MAX}) {
      Check.due("4: index " + index, p.setNew(index, 5), Images.NO_SUCH_INDEX);
    }
    Check.due("4: first index", p.setNew(0, 5), 10);
    Check.due("4: last index", p.setNew(1, 6), 20);
    Check.due("4: the first word", p.newValue(0), 5);
    Check.due("4: the last word", p.newValue(1), 6);
    RelocatingPatch full = Images.of("", Images.up(0, 48));
    Check.due("4: last of 48", full.setNew(47, 9999), 47);
    Check.due("4: behind 48", full.setNew(48, 9999), Images.NO_SUCH_INDEX);
    Check.due("4: last of 48 replaced", full.newValue(47), 9999);
    RelocatingPatch empty = Images.of("1 2", "");
    Check.due("4: no new word", empty.setNew(0, 1), Images.NO_SUCH_INDEX);
  }

  // promise 4: "the value, 0 to 9999"; "Returns the previous value"
  private static void setNewValues() {
    RelocatingPatch p = Images.of("", "5 @6");
    Check.due("4: lowest", p.setNew(0, 0), 5);
    Check.due("4: highest", p.setNew(0, 9999), 0);
    Check.due("4: same", p.setNew(0, 9999), 9999);
    for (int bad : BAD_VALUES) {
      Check.due("4: value " + bad, p.setNew(0, bad), Images.BAD_VALUE);
      Check.due("4: value of an address " + bad, p.setNew(1, bad), Images.BAD_VALUE);
    }
    Check.due("4: BAD_VALUE leaves the value", p.newValue(0), 9999);
    Check.due("4: BAD_VALUE leaves the address", p.newValue(1), 6);
    Check.due("4: no word is added", p.newLength(), 2);
  }

  // promise 4: NO_SUCH_INDEX stands before BAD_VALUE
  private static void setNewIndexBeforeValue() {
    RelocatingPatch p = Images.of("", "5 6");
    for (int index : new int[] {-1, 2, Images.MIN, Images.MAX}) {
      for (int bad : BAD_VALUES) {
        Check.due("4: both wrong", p.setNew(index, bad), Images.NO_SUCH_INDEX);
      }
    }
  }

  // promise 4: "This counts as a change of the image even if the value is the same"
  private static void setNewIsAChange() {
    RelocatingPatch p = Images.built("1 2", "1 2", 1);
    Check.due("4: another value", p.setNew(0, 3), 1);
    allNotBuilt("4: another value", p);
    p = Images.built("1 2", "1 2", 1);
    Check.due("4: the same value", p.setNew(1, 2), 2);
    allNotBuilt("4: the same value", p);
    p.build(1);
    Check.due("4: built again", p.patchSize(), 3);
  }

  private static void setNewRefusedIsNone() {
    RelocatingPatch p = Images.built("1 2", "1 2", 1);
    p.setNew(-1, 0);
    p.setNew(2, 0);
    Check.due("4: NO_SUCH_INDEX is no change", p.patchSize(), 3);
    p.setNew(0, -1);
    p.setNew(1, 10000);
    Check.due("4: BAD_VALUE is no change", p.patchSize(), 3);
  }

  // promise 4: "its flag stays"
  private static void setNewFlagStays() {
    RelocatingPatch p = Images.of("@1 2", "@3 4");
    p.setNew(0, 2);
    p.setNew(1, 1);
    Check.due("4: an address matches an address", p.build(1), 1);
    Images.block("4: an address matches an address", p, 0, 0, 0, 1);
    p.setNew(1, 2);
    Check.due("4: no address matches the value", p.build(1), 1);
    Images.block("4: no address matches the value", p, 0, 0, 0, 2);
  }

  // promise 5: "Removes all words of both images"; "Returns the number of words removed"
  private static void clearCounts() {
    Check.due("5: nothing", new RelocatingPatch().clear(), 0);
    Check.due("5: one old word", Images.of("1", "").clear(), 1);
    Check.due("5: one new word", Images.of("", "1").clear(), 1);
    RelocatingPatch p = Images.of(Images.up(0, 48), Images.up(0, 48));
    p.appendOld(1, false);
    p.appendNew(1, false);
    Check.due("5: two full images", p.clear(), 96);
    Check.due("5: old length", p.oldLength(), 0);
    Check.due("5: new length", p.newLength(), 0);
    Check.due("5: first value is gone", p.newValue(0), Images.NO_SUCH_INDEX);
    Check.due("5: last value is gone", p.newValue(47), Images.NO_SUCH_INDEX);
    Check.due("5: nothing to set", p.setNew(0, 0), Images.NO_SUCH_INDEX);
    Check.due("5: a second time", p.clear(), 0);
  }

  // promise 5: "This counts as a change of the images even if both are empty already"
  private static void clearIsAChange() {
    RelocatingPatch p = Images.built("1 2", "1 2", 1);
    p.clear();
    allNotBuilt("5: words", p);
    p.build(1);
    Check.due("5: built without words", p.patchSize(), 0);
    Check.due("5: empty already", p.clear(), 0);
    allNotBuilt("5: empty already", p);
  }

  private static void clearMakesRoom() {
    RelocatingPatch p = Images.of(Images.same("@7", 48), Images.same("@7", 48));
    p.clear();
    for (int i = 0; i < Images.MOST; i++) {
      Check.due("5: old word " + i, p.appendOld(i, false), i);
      Check.due("5: new word " + i, p.appendNew(i, false), i);
    }
    Check.due("5: old is full again", p.appendOld(0, false), Images.FULL);
    Check.due("5: new is full again", p.appendNew(0, false), Images.FULL);
    Check.due("5: flags and values are forgotten", p.build(16), 1);
    Images.block("5: flags and values are forgotten", p, 0, 0, 0, 48);
    Check.due("5: no corrections", p.correctionCount(), 0);
    p.clear();
    p.appendNew(3, false);
    Check.due("5: no old words", p.build(1), 0);
    Check.due("5: memory of no old words", p.memoryAfter(0, 0), 0);
    Check.due("5: one word in memory", p.memoryAfter(0, 1), Images.NO_SUCH_INDEX);
  }

  private static void clearForgetsFlags() {
    RelocatingPatch p = Images.built("@1 2", "@1 2", 1);
    p.clear();
    p.appendOld(3, false);
    p.appendOld(2, true);
    p.appendNew(4, false);
    p.appendNew(5, true);
    Check.due("5: flags of before the clear", p.build(1), 1);
    Images.block("5: flags of before the clear", p, 0, 1, 1, 1);
  }

  // promises 6 and 7
  private static void lengths() {
    RelocatingPatch p = new RelocatingPatch();
    for (int i = 0; i <= 50; i++) {
      Check.due("6: length " + i, p.oldLength(), Math.min(i, Images.MOST));
      Check.due("7: length beside it", p.newLength(), 0);
      p.appendOld(i, false);
    }
    for (int i = 0; i <= 50; i++) {
      Check.due("7: length " + i, p.newLength(), Math.min(i, Images.MOST));
      Check.due("6: length beside it", p.oldLength(), Images.MOST);
      p.appendNew(i, true);
    }
    p.build(1);
    Check.due("6: built", p.oldLength(), Images.MOST);
    Check.due("7: built", p.newLength(), Images.MOST);
    p.setNew(0, 0);
    Check.due("6: set", p.oldLength(), Images.MOST);
    Check.due("7: set", p.newLength(), Images.MOST);
  }

  // promise 8: "the index of a word of the new image"
  private static void newValueIndexes() {
    RelocatingPatch p = Images.of("1 2 3 4", "0 9999 @0 @9999");
    int[] values = {0, 9999, 0, 9999};
    for (int i = 0; i < values.length; i++) {
      Check.due("8: value " + i, p.newValue(i), values[i]);
    }
    p = Images.of("1 2 3", "7");
    for (int index : new int[] {-1, 1, 2, 47, 48, Images.MIN, Images.MAX}) {
      Check.due("8: index " + index, p.newValue(index), Images.NO_SUCH_INDEX);
    }
    p = Images.of("", Images.up(100, 48));
    Check.due("8: first of 48", p.newValue(0), 100);
    Check.due("8: last of 48", p.newValue(47), 147);
    Check.due("8: behind 48", p.newValue(48), Images.NO_SUCH_INDEX);
    Check.due("8: no new word", Images.of("1", "").newValue(0), Images.NO_SUCH_INDEX);
  }

  // promise 8 lists no NOT_BUILT
  private static void newValueNeedsNoPatch() {
    RelocatingPatch p = Images.of("", "8");
    Check.due("8: not built", p.newValue(0), 8);
    p.build(1);
    Check.due("8: built", p.newValue(0), 8);
    p.setNew(0, 9);
    Check.due("8: changed", p.newValue(0), 9);
  }
}
