/** Each promise by itself: ordinary inputs, the edges that the document names, and wrong inputs. */
public final class PromisesTest {
  private static final int BAD_VALUE = -10001;
  private static final int FULL = -10002;
  private static final int NO_SUCH_INDEX = -10003;
  private static final int NOT_BUILT = -10004;
  private static final int NONE = -10005;
  private static final int MIN = Integer.MIN_VALUE;
  private static final int MAX = Integer.MAX_VALUE;

  private PromisesTest() {
  }

  public static void main(String[] args) {
    newObject();
    appendOld();
    appendNew();
    setNew();
    clear();
    oldLength();
    newLength();
    newValue();
    build();
    buildTies();
    buildMatching();
    blockOldStart();
    blockNewStart();
    blockLength();
    blockOf();
    predictedAddress();
    predictedValue();
    correctionCount();
    correctionIndex();
    literalCount();
    patchSize();
    unpredictedSize();
    copyCount();
    copyStep();
    isDropped();
    inPlaceSize();
    memoryAfter();
    patchedValue();
    notBuiltComesFirst();
    errorsChangeNothing();
    Check.end("PromisesTest");
  }

  private static RelocatingPatch images(String oldWords, String newWords) {
    return Images.of(oldWords, newWords);
  }

  private static RelocatingPatch built(String oldWords, String newWords, int minLength) {
    return Images.built(oldWords, newWords, minLength);
  }

  private static void block(
      String name, RelocatingPatch p, int block, int oldStart, int newStart, int length) {
    Images.block(name, p, block, oldStart, newStart, length);
  }

  /**
   * Three blocks: 0 is new 0..2 from old 5..7, 1 is new 4..7 from old 0..3, 2 is new 9..10 from
   * old 8..9. Block 1 reads what 0 writes, and 0 reads what 1 writes, so 0 is dropped.
   * New 3 and 8 are literals; the words that need corrections are new 1, 2 and 6.
   */
  private static RelocatingPatch threeBlocks() {
    return built("1 2 @0 @6 70 4 @2 @9 8 @0", "4 @5 @9 77 1 2 @6 @1 78 8 @4", 2);
  }

  // promise 1
  private static void newObject() {
    RelocatingPatch p = new RelocatingPatch();
    Check.due("1: oldLength", p.oldLength(), 0);
    Check.due("1: newLength", p.newLength(), 0);
    Check.due("1: patchSize", p.patchSize(), NOT_BUILT);
    RelocatingPatch other = images("1", "2");
    other.build(1);
    Check.due("1: objects are apart", p.oldLength() + p.newLength(), 0);
    Check.due("1: objects are built apart", p.literalCount(), NOT_BUILT);
  }

  // promise 2
  private static void appendOld() {
    RelocatingPatch p = new RelocatingPatch();
    Check.due("2: lowest", p.appendOld(0, false), 0);
    Check.due("2: highest", p.appendOld(9999, true), 1);
    Check.due("2: too low", p.appendOld(-1, false), BAD_VALUE);
    Check.due("2: too high", p.appendOld(10000, true), BAD_VALUE);
    Check.due("2: MIN", p.appendOld(MIN, true), BAD_VALUE);
    Check.due("2: MAX", p.appendOld(MAX, true), BAD_VALUE);
    for (int i = 2; i < 48; i++) {
      Check.due("2: word " + i, p.appendOld(i, false), i);
    }
    Check.due("2: full", p.appendOld(1, false), FULL);
    Check.due("2: bad value before full", p.appendOld(10000, false), BAD_VALUE);
    Check.due("2: length", p.oldLength(), 48);
    Check.due("2: the new image has room", p.appendNew(1, false), 0);
    p.build(1);
    Check.due("2: values are kept", p.memoryAfter(0, 47), 47);
    RelocatingPatch changed = built("1", "1", 1);
    changed.appendOld(2, false);
    Check.due("2: is a change", changed.copyCount(), NOT_BUILT);
  }

  // promise 3
  private static void appendNew() {
    RelocatingPatch p = new RelocatingPatch();
    Check.due("3: lowest", p.appendNew(0, true), 0);
    Check.due("3: highest", p.appendNew(9999, false), 1);
    Check.due("3: too low", p.appendNew(-1, false), BAD_VALUE);
    Check.due("3: too high", p.appendNew(10000, true), BAD_VALUE);
    for (int i = 2; i < 48; i++) {
      Check.due("3: word " + i, p.appendNew(i, false), i);
    }
    Check.due("3: full", p.appendNew(1, false), FULL);
    Check.due("3: bad value before full", p.appendNew(-1, false), BAD_VALUE);
    Check.due("3: length", p.newLength(), 48);
    Check.due("3: the old image has room", p.appendOld(1, false), 0);
    RelocatingPatch changed = built("1", "1", 1);
    changed.appendNew(1, false);
    Check.due("3: is a change", changed.copyCount(), NOT_BUILT);
  }

  // promise 4
  private static void setNew() {
    RelocatingPatch p = images("3 @4", "3 @4");
    Check.due("4: previous", p.setNew(0, 9999), 3);
    Check.due("4: previous again", p.setNew(0, 0), 9999);
    Check.due("4: replaced", p.newValue(0), 0);
    Check.due("4: below", p.setNew(-1, 1), NO_SUCH_INDEX);
    Check.due("4: behind", p.setNew(2, 1), NO_SUCH_INDEX);
    Check.due("4: index before value", p.setNew(2, -1), NO_SUCH_INDEX);
    Check.due("4: too low", p.setNew(1, -1), BAD_VALUE);
    Check.due("4: too high", p.setNew(1, 10000), BAD_VALUE);
    Check.due("4: an error changes nothing", p.newValue(1), 4);
    p.setNew(1, 3);
    Check.due("4: the flag stays", p.build(1), 1);
    block("4: the flag stays", p, 0, 1, 1, 1);
    Check.due("4: same value", p.setNew(1, 3), 3);
    Check.due("4: same value is a change", p.patchSize(), NOT_BUILT);
  }

  // promise 5
  private static void clear() {
    RelocatingPatch p = images("1 2 @3", "4 5");
    Check.due("5: removed", p.clear(), 5);
    Check.due("5: old is empty", p.oldLength(), 0);
    Check.due("5: new is empty", p.newLength(), 0);
    Check.due("5: no value", p.newValue(0), NO_SUCH_INDEX);
    Check.due("5: nothing left", p.clear(), 0);
    p.build(1);
    Check.due("5: built", p.patchSize(), 0);
    Check.due("5: empty once more", p.clear(), 0);
    Check.due("5: is a change though empty", p.patchSize(), NOT_BUILT);
    p.appendOld(3, false);
    p.appendOld(2, false);
    p.appendOld(1, false);
    p.appendNew(7, true);
    Check.due("5: old flags are gone", p.build(1), 0);
    Check.due("5: memory behind is 0", built("", "5 6", 1).memoryAfter(0, 1), 0);
    RelocatingPatch shorter = built("8 9", "8 9", 1);
    shorter.clear();
    shorter.appendNew(8, false);
    Check.due("5: no old words to match", shorter.build(1), 0);
    Check.due("5: memory forgets the old values", shorter.memoryAfter(0, 0), 0);
  }

  // promise 6
  private static void oldLength() {
    RelocatingPatch p = images("1 @2 3", "4");
    Check.due("6: three", p.oldLength(), 3);
    p.appendOld(10000, false);
    Check.due("6: an error adds nothing", p.oldLength(), 3);
    p.appendOld(1, false);
    Check.due("6: four", p.oldLength(), 4);
  }

  // promise 7
  private static void newLength() {
    RelocatingPatch p = images("1", "@4 5");
    Check.due("7: two", p.newLength(), 2);
    p.appendNew(-1, false);
    Check.due("7: an error adds nothing", p.newLength(), 2);
    p.appendNew(1, false);
    Check.due("7: three", p.newLength(), 3);
  }

  // promise 8
  private static void newValue() {
    RelocatingPatch p = images("1 2 3", "40 @50");
    Check.due("8: first", p.newValue(0), 40);
    Check.due("8: last", p.newValue(1), 50);
    Check.due("8: behind", p.newValue(2), NO_SUCH_INDEX);
    Check.due("8: below", p.newValue(-1), NO_SUCH_INDEX);
    Check.due("8: MIN", p.newValue(MIN), NO_SUCH_INDEX);
    Check.due("8: MAX", p.newValue(MAX), NO_SUCH_INDEX);
  }

  // promise 9
  private static void build() {
    RelocatingPatch p = images("1 2 3 4 9", "1 2 3 4 8 9");
    Check.due("9: 0", p.build(0), BAD_VALUE);
    Check.due("9: below", p.build(-1), BAD_VALUE);
    Check.due("9: 17", p.build(17), BAD_VALUE);
    Check.due("9: MAX", p.build(MAX), BAD_VALUE);
    Check.due("9: MIN", p.build(MIN), BAD_VALUE);
    Check.due("9: errors build nothing", p.patchSize(), NOT_BUILT);
    Check.due("9: shortest", p.build(1), 2);
    Check.due("9: longer than one", p.build(2), 1);
    Check.due("9: just as long", p.build(4), 1);
    Check.due("9: too long", p.build(5), 0);
    Check.due("9: 16", p.build(16), 0);
    Check.due("9: shortest again", p.build(1), 2);
    StringBuilder sixteen = new StringBuilder();
    for (int i = 0; i < 16; i++) {
      sixteen.append(i).append(' ');
    }
    Check.due("9: 16 words", images(sixteen.toString(), sixteen.toString()).build(16), 1);
    StringBuilder up = new StringBuilder();
    StringBuilder down = new StringBuilder();
    for (int i = 0; i < 48; i++) {
      up.append(i).append(' ');
      down.append(47 - i).append(' ');
    }
    RelocatingPatch most = images(up.toString(), down.toString());
    Check.due("9: as many blocks as words", most.build(1), 48);
    block("9: the last of 48", most, 47, 0, 47, 1);
    Check.due("9: one block of 48", images(up.toString(), up.toString()).build(16), 1);
  }

  // promise 9: which run is taken
  private static void buildTies() {
    RelocatingPatch p = built("5 6 0 5 6", "1 5 6 2 5 6", 1);
    block("9: lowest newStart with lowest oldStart", p, 0, 0, 1, 2);
    block("9: the rest", p, 1, 3, 4, 2);
    p = built("7 8 1 2", "1 2 7 8", 1);
    block("9: newStart goes before oldStart", p, 0, 2, 0, 2);
    p = built("1 1 1", "1 1", 1);
    Check.due("9: one block", p.build(1), 1);
    block("9: lowest oldStart", p, 0, 0, 0, 2);
    p = built("1 2 3 1 2", "1 2 1 2 3", 1);
    block("9: the longest goes first", p, 1, 0, 2, 3);
    block("9: the other takes what is free", p, 0, 3, 0, 2);
    p = built("1 2 3 4", "3 4 9 2 3 4", 1);
    block("9: a free part of a longer run", p, 0, 1, 3, 3);
    Check.due("9: used words are not used again", p.blockNewStart(1), NO_SUCH_INDEX);
    p = built("1 2 1 2", "1 2 1 2", 1);
    Check.due("9: overlapping runs", p.build(1), 1);
    p = built("4 4 4", "4 4 4 4 4", 1);
    block("9: the first three", p, 0, 0, 0, 3);
    Check.due("9: no old words are left", p.literalCount(), 2);
  }

  // promise 9: which words match
  private static void buildMatching() {
    Check.due("9: addresses of any values", images("@1 @2", "@9 @8").build(2), 1);
    Check.due("9: an address and none", images("@1", "1").build(1), 0);
    Check.due("9: none and an address", images("1", "@1").build(1), 0);
    Check.due("9: equal values", images("1", "1").build(1), 1);
    Check.due("9: different values", images("1", "2").build(1), 0);
    Check.due("9: no old image", images("", "1").build(1), 0);
    Check.due("9: no new image", images("1", "").build(1), 0);
  }

  // promise 10
  private static void blockOldStart() {
    RelocatingPatch p = threeBlocks();
    Check.due("10: 0", p.blockOldStart(0), 5);
    Check.due("10: 1", p.blockOldStart(1), 0);
    Check.due("10: 2", p.blockOldStart(2), 8);
    Check.due("10: behind", p.blockOldStart(3), NO_SUCH_INDEX);
    Check.due("10: below", p.blockOldStart(-1), NO_SUCH_INDEX);
    Check.due("10: MAX", p.blockOldStart(MAX), NO_SUCH_INDEX);
    p.clear();
    Check.due("10: not built", p.blockOldStart(-1), NOT_BUILT);
  }

  // promise 11
  private static void blockNewStart() {
    RelocatingPatch p = threeBlocks();
    Check.due("11: 0", p.blockNewStart(0), 0);
    Check.due("11: 1", p.blockNewStart(1), 4);
    Check.due("11: 2", p.blockNewStart(2), 9);
    Check.due("11: behind", p.blockNewStart(3), NO_SUCH_INDEX);
    Check.due("11: below", p.blockNewStart(-1), NO_SUCH_INDEX);
    Check.due("11: MIN", p.blockNewStart(MIN), NO_SUCH_INDEX);
    p.clear();
    Check.due("11: not built", p.blockNewStart(-1), NOT_BUILT);
  }

  // promise 12
  private static void blockLength() {
    RelocatingPatch p = threeBlocks();
    Check.due("12: 0", p.blockLength(0), 3);
    Check.due("12: 1", p.blockLength(1), 4);
    Check.due("12: 2", p.blockLength(2), 2);
    Check.due("12: behind", p.blockLength(3), NO_SUCH_INDEX);
    Check.due("12: below", p.blockLength(-1), NO_SUCH_INDEX);
    p.clear();
    Check.due("12: not built", p.blockLength(-1), NOT_BUILT);
  }

  // promise 13
  private static void blockOf() {
    RelocatingPatch p = threeBlocks();
    int[] due = {0, 0, 0, NONE, 1, 1, 1, 1, NONE, 2, 2};
    for (int i = 0; i < due.length; i++) {
      Check.due("13: " + i, p.blockOf(i), due[i]);
    }
    Check.due("13: behind", p.blockOf(11), NO_SUCH_INDEX);
    Check.due("13: below", p.blockOf(-1), NO_SUCH_INDEX);
    p.setNew(0, 4);
    Check.due("13: not built", p.blockOf(-1), NOT_BUILT);
  }

  // promise 14
  private static void predictedAddress() {
    RelocatingPatch p = threeBlocks();
    int[] due = {4, 5, 6, 7, 8, 0, 1, 2, 9, 10, 11};
    for (int a = 0; a < due.length; a++) {
      Check.due("14: " + a, p.predictedAddress(a), due[a]);
    }
    Check.due("14: may be greater than 9999", p.predictedAddress(9999), 10000);
    Check.due("14: too high", p.predictedAddress(10000), BAD_VALUE);
    Check.due("14: below", p.predictedAddress(-1), BAD_VALUE);
    p.clear();
    Check.due("14: not built", p.predictedAddress(-1), NOT_BUILT);
    p = built("9 1 2", "1 2 8", 1);
    Check.due("14: before every block", p.predictedAddress(0), 0);
    Check.due("14: at the block", p.predictedAddress(1), 0);
    Check.due("14: behind the block", p.predictedAddress(3), 2);
  }

  // promise 15
  private static void predictedValue() {
    RelocatingPatch p = threeBlocks();
    int[] due = {4, 6, 10, NONE, 1, 2, 4, 1, NONE, 8, 4};
    for (int i = 0; i < due.length; i++) {
      Check.due("15: " + i, p.predictedValue(i), due[i]);
    }
    Check.due("15: behind", p.predictedValue(11), NO_SUCH_INDEX);
    Check.due("15: below", p.predictedValue(-1), NO_SUCH_INDEX);
    p.appendOld(1, false);
    Check.due("15: not built", p.predictedValue(11), NOT_BUILT);
    Check.due("15: above 9999", built("1 @9999", "0 1 @3", 1).predictedValue(2), 10000);
  }

  // promise 16
  private static void correctionCount() {
    RelocatingPatch p = threeBlocks();
    Check.due("16: those of dropped blocks count", p.correctionCount(), 3);
    p.clear();
    Check.due("16: not built", p.correctionCount(), NOT_BUILT);
    p.build(1);
    Check.due("16: none", p.correctionCount(), 0);
    Check.due("16: the first word", built("@5 1", "@6 1", 1).correctionCount(), 1);
    Check.due("16: literals need none", built("1", "2 @3", 1).correctionCount(), 0);
  }

  // promise 17
  private static void correctionIndex() {
    RelocatingPatch p = threeBlocks();
    Check.due("17: 0", p.correctionIndex(0), 1);
    Check.due("17: 1", p.correctionIndex(1), 2);
    Check.due("17: 2", p.correctionIndex(2), 6);
    Check.due("17: behind", p.correctionIndex(3), NO_SUCH_INDEX);
    Check.due("17: below", p.correctionIndex(-1), NO_SUCH_INDEX);
    Check.due("17: the first word", built("@5 1", "@6 1", 1).correctionIndex(0), 0);
    Check.due("17: MIN", p.correctionIndex(MIN), NO_SUCH_INDEX);
    p.clear();
    Check.due("17: not built", p.correctionIndex(-1), NOT_BUILT);
  }

  // promise 18
  private static void literalCount() {
    RelocatingPatch p = threeBlocks();
    Check.due("18: words of dropped blocks do not count", p.literalCount(), 2);
    p.build(4);
    Check.due("18: one block", p.literalCount(), 7);
    p.build(16);
    Check.due("18: no block", p.literalCount(), 11);
    p.clear();
    Check.due("18: not built", p.literalCount(), NOT_BUILT);
  }

  // promise 19
  private static void patchSize() {
    RelocatingPatch p = threeBlocks();
    Check.due("19: 3 blocks, 2 literals, 3 corrections", p.patchSize(), 9 + 2 + 6);
    p.build(16);
    Check.due("19: literals alone", p.patchSize(), 11);
    p.clear();
    Check.due("19: not built", p.patchSize(), NOT_BUILT);
  }

  // promise 20
  private static void unpredictedSize() {
    RelocatingPatch p = threeBlocks();
    Check.due("20: changed are new 1, 6, 7 and 10", p.unpredictedSize(), 9 + 2 + 8);
    p.build(16);
    Check.due("20: literals alone", p.unpredictedSize(), 11);
    p.clear();
    Check.due("20: not built", p.unpredictedSize(), NOT_BUILT);
    Check.due("20: the first word", built("@5 1", "@6 1", 1).unpredictedSize(), 5);
    p = built("1 @5", "0 1 @5", 1);
    Check.due("20: may be less than the predicted size", p.unpredictedSize(), 4);
    Check.due("20: the predicted size then", p.patchSize(), 6);
  }

  // promise 21
  private static void copyCount() {
    RelocatingPatch p = threeBlocks();
    Check.due("21: two of three", p.copyCount(), 2);
    p.build(16);
    Check.due("21: no block", p.copyCount(), 0);
    p.clear();
    Check.due("21: not built", p.copyCount(), NOT_BUILT);
    Check.due("21: a block may overwrite itself", built("1 2 3", "0 1 2 3", 1).copyCount(), 1);
  }

  // promise 22
  private static void copyStep() {
    RelocatingPatch p = built("1 1 2 2 3 3", "7 7 1 1 2 2 3 3", 2);
    Check.due("22: one block that overwrites itself", p.copyStep(0), 0);
    p = built("1 1 0 2 2 0", "7 7 1 1 6 2 2", 2);
    Check.due("22: block 1 reads what 0 writes", p.copyStep(0), 1);
    Check.due("22: then block 0", p.copyStep(1), 0);
    Check.due("22: behind", p.copyStep(2), NO_SUCH_INDEX);
    Check.due("22: below", p.copyStep(-1), NO_SUCH_INDEX);
    p.clear();
    Check.due("22: not built", p.copyStep(-1), NOT_BUILT);
    p = built("1 1 2 2 3 3", "1 1 5 5 3 3", 1);
    Check.due("22: the lowest ready one", p.copyStep(0), 0);
    Check.due("22: the next", p.copyStep(1), 1);
    p = built("1 1 9 9 2 2", "7 7 2 2 1 1", 1);
    Check.due("22: a range that begins behind the other shares nothing", p.copyStep(0), 0);
    p = built("8 8 2 2 8 8 1 1", "1 1 7 7 2 2", 1);
    Check.due("22: a range that ends before the other shares nothing", p.copyStep(0), 0);
    p = threeBlocks();
    Check.due("22: the only one that waits for none", p.copyStep(0), 2);
    Check.due("22: when 0 has been dropped", p.copyStep(1), 1);
  }

  // promise 23
  private static void isDropped() {
    RelocatingPatch p = threeBlocks();
    Check.due("23: 0", p.isDropped(0), 1);
    Check.due("23: 1", p.isDropped(1), 0);
    Check.due("23: 2", p.isDropped(2), 0);
    Check.due("23: behind", p.isDropped(3), NO_SUCH_INDEX);
    Check.due("23: below", p.isDropped(-1), NO_SUCH_INDEX);
    p.clear();
    Check.due("23: not built", p.isDropped(-1), NOT_BUILT);
    p = built("1 2 3 4 5", "4 5 1 2 3", 1);
    Check.due("23: the shortest is dropped", p.isDropped(0), 1);
    p = built("3 4 5 1 2", "1 2 3 4 5", 1);
    Check.due("23: shortest first", p.isDropped(0), 1);
    p = built("1 2 3 4 5", "3 4 5 1 2", 1);
    Check.due("23: a longer lower one stays", p.isDropped(0), 0);
    Check.due("23: the shortest goes though it is the last", p.isDropped(1), 1);
    p = built("1 2", "2 1", 1);
    Check.due("23: the lower of two equal ones", p.isDropped(0), 1);
    p.setNew(0, 1);
    p.setNew(1, 2);
    p.build(1);
    Check.due("23: a new build forgets", p.isDropped(0), 0);
  }

  // promise 24
  private static void inPlaceSize() {
    RelocatingPatch p = threeBlocks();
    Check.due("24: 2 blocks, 2 and 3 literals, 1 correction", p.inPlaceSize(), 6 + 5 + 2);
    p.build(16);
    Check.due("24: literals alone", p.inPlaceSize(), 11);
    p.clear();
    Check.due("24: not built", p.inPlaceSize(), NOT_BUILT);
  }

  // promise 25
  private static void memoryAfter() {
    RelocatingPatch p = threeBlocks();
    int[][] due = {
        {1, 2, 0, 6, 70, 4, 2, 9, 8, 0, 0},
        {1, 2, 0, 6, 70, 4, 2, 9, 8, 8, 0},
        {1, 2, 0, 6, 1, 2, 0, 6, 8, 8, 0}};
    for (int steps = 0; steps < due.length; steps++) {
      for (int i = 0; i < due[steps].length; i++) {
        Check.due("25: " + steps + ", " + i, p.memoryAfter(steps, i), due[steps][i]);
      }
    }
    Check.due("25: too many steps", p.memoryAfter(3, 0), BAD_VALUE);
    Check.due("25: too few steps", p.memoryAfter(-1, 0), BAD_VALUE);
    Check.due("25: steps before index", p.memoryAfter(3, -1), BAD_VALUE);
    Check.due("25: behind", p.memoryAfter(2, 11), NO_SUCH_INDEX);
    Check.due("25: below", p.memoryAfter(0, -1), NO_SUCH_INDEX);
    p.clear();
    Check.due("25: not built", p.memoryAfter(-1, -1), NOT_BUILT);
    p = built("1 2 3", "0 1 2 3", 1);
    Check.due("25: read before any is written", p.memoryAfter(1, 3), 3);
    p = built("1 2 3", "3", 1);
    Check.due("25: the longer image is the old one", p.memoryAfter(1, 2), 3);
    Check.due("25: behind the old one", p.memoryAfter(1, 3), NO_SUCH_INDEX);
    p = built("1", "5 6 7", 1);
    Check.due("25: 0 behind the old image", p.memoryAfter(0, 2), 0);
    Check.due("25: behind the new one", p.memoryAfter(0, 3), NO_SUCH_INDEX);
  }

  // promise 26
  private static void patchedValue() {
    RelocatingPatch p = threeBlocks();
    for (int i = 0; i < p.newLength(); i++) {
      Check.due("26: " + i, p.patchedValue(i), p.newValue(i));
    }
    Check.due("26: behind", p.patchedValue(11), NO_SUCH_INDEX);
    Check.due("26: below", p.patchedValue(-1), NO_SUCH_INDEX);
    p.clear();
    Check.due("26: not built", p.patchedValue(-1), NOT_BUILT);
    p = built("1 2 3", "3", 1);
    Check.due("26: memory behind the new image is no word of it", p.patchedValue(1), NO_SUCH_INDEX);
  }

  private static void notBuiltComesFirst() {
    RelocatingPatch p = images("1", "1");
    Check.due("blockOf, not built", p.blockOf(5), NOT_BUILT);
    Check.due("predictedAddress, not built", p.predictedAddress(10000), NOT_BUILT);
    Check.due("memoryAfter, not built", p.memoryAfter(9, 9), NOT_BUILT);
    Check.due("copyCount, not built", p.copyCount(), NOT_BUILT);
    Check.due("inPlaceSize, not built", p.inPlaceSize(), NOT_BUILT);
    Check.due("unpredictedSize, not built", p.unpredictedSize(), NOT_BUILT);
  }

  private static void errorsChangeNothing() {
    RelocatingPatch p = threeBlocks();
    p.appendOld(10000, false);
    p.appendNew(-1, true);
    p.setNew(11, 0);
    p.setNew(0, -1);
    p.build(0);
    p.build(17);
    Check.due("still built", p.patchSize(), 17);
    Check.due("still the old length", p.oldLength(), 10);
    Check.due("still the new length", p.newLength(), 11);
    for (int i = 0; i < 40; i++) {
      p.appendOld(1, false);
      p.appendNew(1, false);
    }
    p.build(1);
    Check.due("full", p.appendOld(1, false), FULL);
    Check.holds("a full image is no change", p.patchSize() > 0);
  }
}
