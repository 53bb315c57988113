/** The boundary cases of the description's "Copying in place" and of promises 21 to 26. */
public final class InPlaceBoundsTest {
  private InPlaceBoundsTest() {
  }

  public static void main(String[] args) {
    rangesThatShareOneIndex();
    rangesThatShareNone();
    rangesInsideOneAnother();
    blockMayOverwriteItself();
    lowestReadyEachStep();
    readyBeforeDropped();
    shortestIsDropped();
    lowestOfTheShortestIsDropped();
    shortestNeedNotBeInTheRing();
    droppedBlocksLetOthersGo();
    halfOfFortyEight();
    noBlocks();
    buildForgetsTheOrder();
    stepNumbers();
    droppedNumbers();
    inPlaceSizes();
    memoryLengths();
    memorySteps();
    stepsBeforeIndex();
    memoryBehindTheOldImage();
    copyingChangesNoAddress();
    patchedValueIndexes();
    patchedValues();
    notBuiltFirst();
    Check.end("InPlaceBoundsTest");
  }

  private static void order(String name, RelocatingPatch p, int... blocks) {
    Check.due(name + ": copyCount", p.copyCount(), blocks.length);
    for (int step = 0; step < blocks.length; step++) {
      Check.due(name + ": step " + step, p.copyStep(step), blocks[step]);
    }
    Check.due(name + ": behind", p.copyStep(blocks.length), Images.NO_SUCH_INDEX);
  }

  private static void memory(String name, RelocatingPatch p, int steps, int... values) {
    for (int index = 0; index < values.length; index++) {
      Check.due(name + ": " + steps + " steps, word " + index, p.memoryAfter(steps, index),
          values[index]);
    }
    Check.due(name + ": behind the memory", p.memoryAfter(steps, values.length),
        Images.NO_SUCH_INDEX);
  }

  // ".. the new range of y and the old range of x share an index"
  private static void rangesThatShareOneIndex() {
    RelocatingPatch p = Images.built("90 3 4 91 92 93 94 95 1 2", "1 2 80 81 82 3 4", 2);
    order("y ends where x begins", p, 1, 0);
    p = Images.built("90 3 4 91 92 93 94 95 1 2", "80 81 1 2 82 83 3 4", 2);
    order("y begins where x ends", p, 1, 0);
  }

  private static void rangesThatShareNone() {
    RelocatingPatch p = Images.built("90 91 3 4 92 93 94 95 1 2", "1 2 80 81 82 3 4", 2);
    order("y ends just before x", p, 0, 1);
    p = Images.built("3 4 90 91 92 93 94 95 1 2", "80 81 1 2 82 83 3 4", 2);
    order("y begins just behind x", p, 0, 1);
  }

  private static void rangesInsideOneAnother() {
    RelocatingPatch p = Images.built("3 4 5 90 91 92 93 94 1", "80 1 81 82 3 4 5", 1);
    order("y writes within what x reads", p, 1, 0);
    p = Images.built("90 3 91 92 93 94 95 96 1 2 5", "1 2 5 80 3", 1);
    order("x reads within what y writes", p, 1, 0);
    p = Images.built("3 4 90 91 92 93 1 2", "1 2 80 3 4", 1);
    order("y writes all that x reads", p, 1, 0);
  }

  // "A block may overwrite words of its own old range"
  private static void blockMayOverwriteItself() {
    RelocatingPatch p = Images.built("1 2 3", "80 1 2 3", 1);
    order("moved up by one", p, 0);
    memory("moved up by one", p, 1, 1, 1, 2, 3);
    p = Images.built("90 1 2 3", "1 2 3", 1);
    order("moved down by one", p, 0);
    memory("moved down by one", p, 1, 1, 2, 3, 3);
    p = Images.built("1 2 3", "1 2 3", 1);
    order("not moved", p, 0);
    memory("not moved", p, 1, 1, 2, 3);
  }

  // "the ready block with the lowest number is copied next"
  private static void lowestReadyEachStep() {
    RelocatingPatch p = Images.built("3 90 91 92 93 94 95 96 97 98 1 99 2 100 4",
        "1 80 2 81 3 82 4", 1);
    order("0 goes as soon as 2 is copied", p, 1, 2, 0, 3);
    p = Images.built("1 90 2 91 3", "1 80 2 81 3", 1);
    order("all are ready", p, 0, 1, 2);
    p = Images.built("1 90 2 91 3 92 93", "80 81 1 82 2 83 3", 1);
    order("each waits for the next", p, 2, 1, 0);
  }

  // "If at least one remaining block is ready, .. Otherwise .. the shortest .. is dropped"
  private static void readyBeforeDropped() {
    RelocatingPatch p = Images.built("1 2 90 91 3 92 5 6 7", "2 1 80 81 82 3", 1);
    order("a ready block goes before a drop", p, 2, 1);
    Check.due("23: then 0 is dropped", p.isDropped(0), 1);
    p = Images.built("1 90 2 91 3 4", "2 80 1 81 82 83 84 3 4", 1);
    Check.due("23: a shorter one waits", p.isDropped(0), 1);
    Check.due("23: a longer one is ready", p.isDropped(2), 0);
    order("a longer ready block goes first", p, 2, 1);
  }

  private static void shortestIsDropped() {
    RelocatingPatch p = Images.built("1 2 3", "2 3 1", 1);
    Check.due("23: the longer one", p.isDropped(0), 0);
    Check.due("23: the shorter one", p.isDropped(1), 1);
    order("the shorter one is dropped, though last", p, 0);
    p = Images.built("2 3 1", "1 2 3", 1);
    Check.due("23: the shorter one, first", p.isDropped(0), 1);
    order("the shorter one is dropped, and first", p, 1);
  }

  // "of several shortest ones the one with the lowest number"
  private static void lowestOfTheShortestIsDropped() {
    RelocatingPatch p = Images.built("1 2", "2 1", 1);
    Check.due("23: the lower of two", p.isDropped(0), 1);
    Check.due("23: the higher of two", p.isDropped(1), 0);
    p = Images.built("1 90 2 91 3", "2 80 3 81 1", 1);
    Check.due("23: the lowest of three", p.isDropped(0), 1);
    Check.due("23: the middle of three", p.isDropped(1), 0);
    Check.due("23: the highest of three", p.isDropped(2), 0);
    order("a ring of three", p, 1, 2);
    p = Images.built("1 2 3 4 5 6 7", "6 7 4 5 1 2 3", 1);
    Check.due("23: the lower of two shortest", p.isDropped(0), 1);
    Check.due("23: the higher one still waits for the long one", p.isDropped(1), 1);
    order("two short ones and a long one", p, 2);
  }

  // "the shortest remaining block is dropped", whether or not others wait for it
  private static void shortestNeedNotBeInTheRing() {
    RelocatingPatch p = Images.built("1 2 90 91 92 3 4 93 5", "5 3 4 80 1 2", 1);
    Images.block("waits for 2 alone", p, 0, 8, 0, 1);
    Images.block("waits for 2", p, 1, 5, 1, 2);
    Images.block("waits for 1", p, 2, 0, 4, 2);
    Check.due("23: the shortest", p.isDropped(0), 1);
    Check.due("23: the lower of the ring", p.isDropped(1), 1);
    Check.due("23: the rest", p.isDropped(2), 0);
    order("two are dropped", p, 2);
    Check.due("24: one block, three words of two dropped ones, a literal", p.inPlaceSize(), 7);
  }

  // ".. has been copied or dropped already"
  private static void droppedBlocksLetOthersGo() {
    RelocatingPatch p = Images.built("1 90 2 91 3 92 4", "2 80 1 81 4 82 3", 1);
    Check.due("23: 0 of the first pair", p.isDropped(0), 1);
    Check.due("23: 1 of the first pair", p.isDropped(1), 0);
    Check.due("23: 2 of the second pair", p.isDropped(2), 1);
    Check.due("23: 3 of the second pair", p.isDropped(3), 0);
    order("two pairs", p, 1, 3);
  }

  private static void halfOfFortyEight() {
    RelocatingPatch p = Images.built(Images.up(0, 48), Images.down(47, 48), 1);
    Check.due("21: 24 of 48", p.copyCount(), 24);
    for (int block = 0; block < Images.MOST; block++) {
      Check.due("23: of 48, " + block, p.isDropped(block), block < 24 ? 1 : 0);
      Check.due("22: of 48, " + block, p.copyStep(block),
          block < 24 ? 47 - block : Images.NO_SUCH_INDEX);
      Check.due("25: of 48, " + block, p.memoryAfter(24, block),
          block < 24 ? block : 47 - block);
      Check.due("26: of 48, " + block, p.patchedValue(block), 47 - block);
    }
    Check.due("23: behind 48", p.isDropped(48), Images.NO_SUCH_INDEX);
    Check.due("24: 24 blocks and 24 literals", p.inPlaceSize(), 96);
    Check.due("25: 25 steps", p.memoryAfter(25, 0), Images.BAD_VALUE);
  }

  private static void noBlocks() {
    RelocatingPatch p = Images.built("1 2", "3 4", 1);
    order("no blocks", p);
    Check.due("23: no blocks", p.isDropped(0), Images.NO_SUCH_INDEX);
    Check.due("24: no blocks", p.inPlaceSize(), 2);
    memory("25: no blocks", p, 0, 1, 2);
    Check.due("25: no step", p.memoryAfter(1, 0), Images.BAD_VALUE);
    Check.due("26: no blocks, first", p.patchedValue(0), 3);
    Check.due("26: no blocks, last", p.patchedValue(1), 4);
  }

  private static void buildForgetsTheOrder() {
    RelocatingPatch p = Images.built("1 2 3", "2 3 1", 1);
    order("built with 1", p, 0);
    p.build(2);
    order("built with 2", p, 0);
    Check.due("23: the dropped one is no block", p.isDropped(1), Images.NO_SUCH_INDEX);
    p.build(3);
    order("built with 3", p);
    p.clear();
    p.appendOld(1, false);
    p.appendOld(2, false);
    p.appendNew(1, false);
    p.appendNew(3, false);
    p.appendNew(2, false);
    p.build(1);
    order("other words", p, 0, 1);
    Check.due("23: nothing is dropped, 0", p.isDropped(0), 0);
    Check.due("23: nothing is dropped, 1", p.isDropped(1), 0);
  }

  // promise 22: "the number of a copy step, from 0"
  private static void stepNumbers() {
    RelocatingPatch p = Images.built("1 2", "2 1", 1);
    Check.due("22: first", p.copyStep(0), 1);
    for (int step : new int[] {-1, 1, 2, 47, 48, Images.MIN, Images.MIN + 1, Images.MAX}) {
      Check.due("22: step " + step, p.copyStep(step), Images.NO_SUCH_INDEX);
    }
  }

  // promise 23: "the number of a block"
  private static void droppedNumbers() {
    RelocatingPatch p = Images.built("1 2", "2 1", 1);
    for (int block : new int[] {-1, 2, 3, 47, 48, Images.MIN, Images.MIN + 1, Images.MAX}) {
      Check.due("23: block " + block, p.isDropped(block), Images.NO_SUCH_INDEX);
    }
    Check.due("23: first", p.isDropped(0), 1);
    Check.due("23: last", p.isDropped(1), 0);
  }

  // promise 24: "a dropped block costs nothing as a block, each of its words costs 1 as a literal,
  // and no corrections are needed for its words"
  private static void inPlaceSizes() {
    Check.due("24: nothing", Images.built("", "", 1).inPlaceSize(), 0);
    Check.due("24: no new words", Images.built("1 2", "", 1).inPlaceSize(), 0);
    Check.due("24: a block", Images.built("1", "1", 1).inPlaceSize(), 3);
    Check.due("24: a literal", Images.built("", "1", 1).inPlaceSize(), 1);
    Check.due("24: a block with a correction", Images.built("@1", "@2", 1).inPlaceSize(), 5);
    RelocatingPatch p = Images.built("@0 @0 1 2 3", "1 2 3 @9 @9", 1);
    Check.due("24: block 1 is dropped", p.isDropped(1), 1);
    Check.due("19: two blocks and two corrections", p.patchSize(), 10);
    Check.due("24: a block and two literals", p.inPlaceSize(), 5);
    p = Images.built("1 2 @9 @0 @0", "@8 @7 1 2 @5", 1);
    Check.due("24: block 0 is dropped", p.isDropped(0), 1);
    Check.due("24: a block, two literals and a correction", p.inPlaceSize(), 7);
  }

  // promise 25: "The memory has as many words as the longer of both images"
  private static void memoryLengths() {
    RelocatingPatch p = Images.built("1 2 3", "4", 1);
    memory("25: the old image is longer", p, 0, 1, 2, 3);
    p = Images.built("4", "1 2 3", 1);
    memory("25: the new image is longer", p, 0, 4, 0, 0);
    p = Images.built("1 2", "3 4", 1);
    memory("25: both are as long", p, 0, 1, 2);
    p = Images.built("1 2", "", 1);
    memory("25: no new image", p, 0, 1, 2);
    p = Images.built("", "1 2", 1);
    memory("25: no old image", p, 0, 0, 0);
    p = Images.built("", "", 1);
    memory("25: neither", p, 0);
    for (int index : new int[] {-1, 0, 48, Images.MIN, Images.MIN + 1, Images.MAX}) {
      Check.due("25: no memory, " + index, p.memoryAfter(0, index), Images.NO_SUCH_INDEX);
    }
    p = Images.built(Images.up(100, 48), "1", 1);
    Check.due("25: last of 48", p.memoryAfter(0, 47), 147);
    Check.due("25: behind 48", p.memoryAfter(0, 48), Images.NO_SUCH_INDEX);
    p = Images.built("1", Images.up(100, 48), 1);
    Check.due("25: last of 48, 0", p.memoryAfter(0, 47), 0);
    Check.due("25: behind 48 new words", p.memoryAfter(0, 48), Images.NO_SUCH_INDEX);
  }

  // promise 25: "the number of copy steps done, 0 to copyCount()"
  private static void memorySteps() {
    RelocatingPatch p = Images.built("1 90 2 91 3 92 93", "80 81 1 82 2 83 3", 1);
    memory("25: three steps", p, 0, 1, 90, 2, 91, 3, 92, 93);
    memory("25: three steps", p, 1, 1, 90, 2, 91, 3, 92, 3);
    memory("25: three steps", p, 2, 1, 90, 2, 91, 2, 92, 3);
    memory("25: three steps", p, 3, 1, 90, 1, 91, 2, 92, 3);
    for (int steps : new int[] {-1, 4, 5, 48, Images.MIN, Images.MIN + 1, Images.MAX}) {
      Check.due("25: steps " + steps, p.memoryAfter(steps, 0), Images.BAD_VALUE);
    }
    for (int index : new int[] {-1, 7, 8, 48, Images.MIN, Images.MIN + 1, Images.MAX}) {
      Check.due("25: index " + index, p.memoryAfter(0, index), Images.NO_SUCH_INDEX);
      Check.due("25: index at the end " + index, p.memoryAfter(3, index), Images.NO_SUCH_INDEX);
    }
    p = Images.built("1 2", "2 1", 1);
    Check.due("25: a dropped block is no step", p.memoryAfter(2, 0), Images.BAD_VALUE);
    memory("25: a dropped block is not copied", p, 1, 1, 1);
  }

  // promise 25: BAD_VALUE stands before NO_SUCH_INDEX
  private static void stepsBeforeIndex() {
    RelocatingPatch p = Images.built("1 2", "2 1", 1);
    for (int steps : new int[] {-1, 2, Images.MIN, Images.MAX}) {
      for (int index : new int[] {-1, 2, Images.MIN, Images.MAX}) {
        Check.due("25: both wrong", p.memoryAfter(steps, index), Images.BAD_VALUE);
      }
    }
  }

  // promise 25: "It holds the values of the old image at first and 0 behind them"
  private static void memoryBehindTheOldImage() {
    RelocatingPatch p = Images.built("1 2", "80 81 82 1 2 83", 1);
    memory("25: copied behind the old image", p, 0, 1, 2, 0, 0, 0, 0);
    memory("25: copied behind the old image", p, 1, 1, 2, 0, 1, 2, 0);
    p = Images.built("1 2 3", "2", 1);
    memory("25: the rest of the old image stays", p, 1, 2, 2, 3);
    p = Images.built("7 8 9", "7 8 9", 1);
    p.clear();
    p.appendOld(1, false);
    for (int value = 4; value <= 6; value++) {
      p.appendNew(value, false);
    }
    p.build(1);
    memory("25: 0, not what was cleared", p, 0, 1, 0, 0);
  }

  // promise 25: "A copy step only moves values; addresses are not changed by it"
  private static void copyingChangesNoAddress() {
    RelocatingPatch p = Images.built("@0 @9999", "80 @1 @9999", 1);
    memory("25: addresses", p, 0, 0, 9999, 0);
    memory("25: addresses", p, 1, 0, 0, 9999);
    Check.due("26: predicted", p.patchedValue(1), 1);
    Check.due("26: corrected", p.patchedValue(2), 9999);
  }

  // promise 26: "the index of a word of the new image"
  private static void patchedValueIndexes() {
    RelocatingPatch p = Images.built("1 2 3", "1 9", 1);
    for (int index : new int[] {-1, 2, 3, 47, 48, Images.MIN, Images.MIN + 1, Images.MAX}) {
      Check.due("26: index " + index, p.patchedValue(index), Images.NO_SUCH_INDEX);
    }
    Check.due("26: first", p.patchedValue(0), 1);
    Check.due("26: last", p.patchedValue(1), 9);
    p = Images.built("1", "", 1);
    Check.due("26: no new word", p.patchedValue(0), Images.NO_SUCH_INDEX);
    p = Images.built("", Images.up(100, 48), 1);
    Check.due("26: last of 48", p.patchedValue(47), 147);
    Check.due("26: behind 48", p.patchedValue(48), Images.NO_SUCH_INDEX);
  }

  private static void patchedValues() {
    RelocatingPatch p = Images.built("1 @3 2 @0", "@9 80 0 1 @6 9999 2 @5", 1);
    int[] due = {9, 80, 0, 1, 6, 9999, 2, 5};
    for (int index = 0; index < due.length; index++) {
      Check.due("26: word " + index, p.patchedValue(index), due[index]);
    }
    p = Images.built("@0 @0 1 2 3", "1 2 3 @9 @9", 1);
    Check.due("26: a word of a dropped block", p.patchedValue(3), 9);
    Check.due("26: the last of a dropped block", p.patchedValue(4), 9);
    Check.due("26: memory is not changed by asking", p.memoryAfter(0, 0), 0);
    Check.due("26: newValue is not changed by asking", p.newValue(3), 9);
  }

  // promises 21 to 26: NOT_BUILT stands before BAD_VALUE and NO_SUCH_INDEX
  private static void notBuiltFirst() {
    RelocatingPatch p = Images.built("1 2", "2 1", 1);
    p.appendNew(1, false);
    for (int i : new int[] {0, 1, -1, 2, 48, Images.MIN, Images.MAX}) {
      Check.due("22: not built, " + i, p.copyStep(i), Images.NOT_BUILT);
      Check.due("23: not built, " + i, p.isDropped(i), Images.NOT_BUILT);
      Check.due("25: not built, steps " + i, p.memoryAfter(i, 0), Images.NOT_BUILT);
      Check.due("25: not built, index " + i, p.memoryAfter(0, i), Images.NOT_BUILT);
      Check.due("25: not built, both " + i, p.memoryAfter(i, i), Images.NOT_BUILT);
      Check.due("26: not built, " + i, p.patchedValue(i), Images.NOT_BUILT);
    }
    Check.due("21: not built", p.copyCount(), Images.NOT_BUILT);
    Check.due("24: not built", p.inPlaceSize(), Images.NOT_BUILT);
  }
}
