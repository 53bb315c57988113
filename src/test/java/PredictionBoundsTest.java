/** The boundary cases of the description's "Prediction" and "Size" and of promises 14 to 20. */
public final class PredictionBoundsTest {
  private PredictionBoundsTest() {
  }

  public static void main(String[] args) {
    addressRange();
    addressWithoutBlocks();
    addressAroundBlocks();
    addressMovedFarthest();
    addressByOldStartNotByNumber();
    addressCountsDroppedBlocks();
    predictedValueIndexes();
    predictedValueOfLiterals();
    predictedValueAddressOrNot();
    predictedValueAbove9999();
    predictedValueOfDropped();
    noCorrections();
    mostCorrections();
    correctionsByOne();
    correctionNumbers();
    correctionsOfDropped();
    literalCounts();
    patchSizes();
    unpredictedSizes();
    notBuiltFirst();
    Check.end("PredictionBoundsTest");
  }

  // promise 14: "an old address, 0 to 9999"
  private static void addressRange() {
    RelocatingPatch p = Images.built("1", "0 1", 1);
    Check.due("14: lowest", p.predictedAddress(0), 1);
    Check.due("14: highest", p.predictedAddress(9999), 10000);
    for (int bad : new int[] {-1, 10000, 65536, Images.MIN, Images.MIN + 1, Images.MAX}) {
      Check.due("14: address " + bad, p.predictedAddress(bad), Images.BAD_VALUE);
    }
  }

  // "If there is no such block, the predicted address is a"
  private static void addressWithoutBlocks() {
    RelocatingPatch p = Images.built("1 2", "3 4", 1);
    for (int address : new int[] {0, 1, 2, 47, 48, 9998, 9999}) {
      Check.due("14: no blocks, " + address, p.predictedAddress(address), address);
    }
    Check.due("14: no blocks, too low", p.predictedAddress(-1), Images.BAD_VALUE);
    Check.due("14: no blocks, too high", p.predictedAddress(10000), Images.BAD_VALUE);
    p = Images.built("", "", 1);
    Check.due("14: no words, lowest", p.predictedAddress(0), 0);
    Check.due("14: no words, highest", p.predictedAddress(9999), 9999);
  }

  // "the block with the greatest oldStart that is not greater than a"
  private static void addressAroundBlocks() {
    RelocatingPatch p = Images.built("90 91 1 2 92 93 3 4", "3 4 80 81 82 1 2", 1);
    int[] due = {0, 1, 5, 6, 7, 8, 0, 1, 2, 3};
    for (int address = 0; address < due.length; address++) {
      Check.due("14: address " + address, p.predictedAddress(address), due[address]);
    }
    Check.due("14: far behind the image", p.predictedAddress(9999), 9993);
  }

  // "a need not be an index of the old image; the predicted address may be greater than 9999"
  private static void addressMovedFarthest() {
    RelocatingPatch p = Images.built("5", Images.up(100, 47) + "5", 1);
    Check.due("14: up by 47, 0", p.predictedAddress(0), 47);
    Check.due("14: up by 47, 9952", p.predictedAddress(9952), 9999);
    Check.due("14: up by 47, 9953", p.predictedAddress(9953), 10000);
    Check.due("14: up by 47, 9999", p.predictedAddress(9999), 10046);
    p = Images.built(Images.up(100, 47) + "5", "5", 1);
    Check.due("14: down by 47, before the block", p.predictedAddress(46), 46);
    Check.due("14: down by 47, at the block", p.predictedAddress(47), 0);
    Check.due("14: down by 47, 9999", p.predictedAddress(9999), 9952);
  }

  private static void addressByOldStartNotByNumber() {
    RelocatingPatch p = Images.built("1 90 2 91 3", "3 80 1 81 2", 1);
    int[] due = {2, 3, 4, 5, 0, 1};
    for (int address = 0; address < due.length; address++) {
      Check.due("14: by oldStart, " + address, p.predictedAddress(address), due[address]);
    }
  }

  // "Dropped blocks (see below) count as well"
  private static void addressCountsDroppedBlocks() {
    RelocatingPatch p = Images.built("1 2", "2 1", 1);
    Check.due("14: block 0 is dropped", p.isDropped(0), 1);
    Check.due("14: by the copied block", p.predictedAddress(0), 1);
    Check.due("14: by the dropped block", p.predictedAddress(1), 0);
    Check.due("14: behind the dropped block", p.predictedAddress(9999), 9998);
  }

  // promise 15: "the index of a word of the new image"
  private static void predictedValueIndexes() {
    RelocatingPatch p = Images.built("1 2 3", "1 2", 1);
    Check.due("15: first", p.predictedValue(0), 1);
    Check.due("15: last", p.predictedValue(1), 2);
    for (int index : new int[] {-1, 2, 3, 47, 48, Images.MIN, Images.MAX}) {
      Check.due("15: index " + index, p.predictedValue(index), Images.NO_SUCH_INDEX);
    }
    p = Images.built(Images.up(0, 48), Images.up(0, 48), 16);
    Check.due("15: last of 48", p.predictedValue(47), 47);
    Check.due("15: behind 48", p.predictedValue(48), Images.NO_SUCH_INDEX);
  }

  // promise 15: "NONE if the word is a literal"
  private static void predictedValueOfLiterals() {
    RelocatingPatch p = Images.built("1 2", "80 1 2 81", 1);
    int[] due = {Images.NONE, 1, 2, Images.NONE};
    for (int index = 0; index < due.length; index++) {
      Check.due("15: word " + index, p.predictedValue(index), due[index]);
    }
    p = Images.built("@5", "5 0", 1);
    Check.due("15: a literal of the same value", p.predictedValue(0), Images.NONE);
    Check.due("15: a literal 0", p.predictedValue(1), Images.NONE);
    Check.due("15: NONE is no error and no change", p.patchSize(), 2);
  }

  // "the value of the corresponding old word, or its predicted address if .. an address"
  private static void predictedValueAddressOrNot() {
    RelocatingPatch p = Images.built("0 @0 9 @9", "80 0 @3 9 @3", 1);
    int[] due = {Images.NONE, 0, 1, 9, 10};
    for (int index = 0; index < due.length; index++) {
      Check.due("15: moved by one, word " + index, p.predictedValue(index), due[index]);
    }
    p = Images.built("90 1 @0 @1", "1 @0 @1", 1);
    Check.due("15: an address before every block", p.predictedValue(1), 0);
    Check.due("15: an address at the block", p.predictedValue(2), 0);
  }

  private static void predictedValueAbove9999() {
    RelocatingPatch p = Images.built("@9999 9999", "80 @9999 9999", 1);
    Check.due("15: an address above 9999", p.predictedValue(1), 10000);
    Check.due("15: no address", p.predictedValue(2), 9999);
    Check.due("16: no value of a word is that high", p.correctionCount(), 1);
    Check.due("17: the address", p.correctionIndex(0), 1);
    Check.due("26: it is corrected", p.patchedValue(1), 9999);
    p = Images.built("@9998", "80 @9999", 1);
    Check.due("15: an address of 9999", p.predictedValue(1), 9999);
    Check.due("16: just reached", p.correctionCount(), 0);
  }

  private static void predictedValueOfDropped() {
    RelocatingPatch p = Images.built("@0 2", "2 @1", 1);
    Check.due("15: a word of the dropped block", p.predictedValue(0), 2);
    Check.due("15: a word of the copied block", p.predictedValue(1), 1);
  }

  private static void noCorrections() {
    RelocatingPatch p = Images.built("@5 1", "@5 1", 1);
    Check.due("16: none", p.correctionCount(), 0);
    for (int number : new int[] {0, -1, 1, Images.MIN, Images.MAX}) {
      Check.due("17: none, " + number, p.correctionIndex(number), Images.NO_SUCH_INDEX);
    }
    Check.due("16: literals need none", Images.built("", "@5 1", 1).correctionCount(), 0);
    Check.due("16: no new words", Images.built("@5 1", "", 1).correctionCount(), 0);
  }

  private static void mostCorrections() {
    RelocatingPatch p = Images.built(Images.same("@0", 48), Images.same("@1", 48), 1);
    Check.due("16: 48", p.correctionCount(), 48);
    for (int number = 0; number < Images.MOST; number++) {
      Check.due("17: of 48, " + number, p.correctionIndex(number), number);
    }
    Check.due("17: behind 48", p.correctionIndex(48), Images.NO_SUCH_INDEX);
    Check.due("19: a block and 48 corrections", p.patchSize(), 99);
    Check.due("20: a block and 48 corrections", p.unpredictedSize(), 99);
    Check.due("24: a block and 48 corrections", p.inPlaceSize(), 99);
  }

  // "A correction is needed for each new word of a block whose value is not its predicted value"
  private static void correctionsByOne() {
    RelocatingPatch p = Images.of("1 @7", "80 1 @7");
    int[] dueCounts = {1, 0, 1};
    for (int value = 7; value <= 9; value++) {
      p.setNew(2, value);
      p.build(1);
      Check.due("16: predicted is 8, is " + value, p.correctionCount(), dueCounts[value - 7]);
    }
  }

  // promise 17: "numbered from 0 by ascending index of the new word"
  private static void correctionNumbers() {
    RelocatingPatch p = Images.built("@1 5 @2 6 @3", "@9 5 @2 6 @9", 1);
    Check.due("17: the first word", p.correctionIndex(0), 0);
    Check.due("17: the last word", p.correctionIndex(1), 4);
    for (int number : new int[] {-1, 2, 3, 47, 48, Images.MIN, Images.MIN + 1, Images.MAX}) {
      Check.due("17: number " + number, p.correctionIndex(number), Images.NO_SUCH_INDEX);
    }
    p = Images.built("7 7 7 @1 90 8 @1", "8 @9 80 7 7 7 @9", 1);
    Check.due("17: by the new word, not by the length", p.correctionIndex(0), 1);
    Check.due("17: then that of the longest block", p.correctionIndex(1), 6);
    p = Images.built("1 @9", "80 81 82 1 @5", 1);
    Check.due("16: behind the end of the old image", p.correctionCount(), 1);
    Check.due("17: behind the end of the old image", p.correctionIndex(0), 4);
    Check.due("20: behind the end of the old image", p.unpredictedSize(), 8);
    p = Images.built("90 91 92 1 @9", "1 @5", 1);
    Check.due("17: before the end of the old image", p.correctionIndex(0), 1);
  }

  private static void correctionsOfDropped() {
    RelocatingPatch p = Images.built("1 @0", "@9 1", 1);
    Check.due("16: block 0 is dropped", p.isDropped(0), 1);
    Check.due("16: its correction counts", p.correctionCount(), 1);
    Check.due("17: its correction", p.correctionIndex(0), 0);
    Check.due("18: its word is no literal", p.literalCount(), 0);
    Check.due("19: two blocks and a correction", p.patchSize(), 8);
    Check.due("24: a block and a literal", p.inPlaceSize(), 4);
  }

  private static void literalCounts() {
    Check.due("18: no words", Images.built("", "", 1).literalCount(), 0);
    Check.due("18: no new words", Images.built("1 2", "", 1).literalCount(), 0);
    Check.due("18: no old words", Images.built("", "1", 1).literalCount(), 1);
    Check.due("18: 48", Images.built("", Images.up(0, 48), 1).literalCount(), 48);
    RelocatingPatch p = Images.built(Images.up(0, 48), Images.up(0, 48), 1);
    Check.due("18: none of 48", p.literalCount(), 0);
    p = Images.built("1 2 90 3", "80 1 2 81 3 82", 1);
    Check.due("18: before, between and behind", p.literalCount(), 3);
    p.build(2);
    Check.due("18: what is too short is literal", p.literalCount(), 4);
    p.build(3);
    Check.due("18: all are literals", p.literalCount(), 6);
  }

  // "A block costs 3, a literal costs 1, and a correction costs 2"
  private static void patchSizes() {
    Check.due("19: nothing", Images.built("", "", 1).patchSize(), 0);
    Check.due("19: no new words", Images.built("1 2", "", 1).patchSize(), 0);
    Check.due("19: a block", Images.built("1", "1", 1).patchSize(), 3);
    Check.due("19: a literal", Images.built("", "1", 1).patchSize(), 1);
    Check.due("19: a block and a correction", Images.built("@1", "@2", 1).patchSize(), 5);
    Check.due("19: 48 literals", Images.built("", Images.up(0, 48), 1).patchSize(), 48);
    RelocatingPatch p = Images.built(Images.up(0, 48), Images.down(47, 48), 1);
    Check.due("19: 48 blocks", p.patchSize(), 144);
    Check.due("20: 48 blocks", p.unpredictedSize(), 144);
    p.build(2);
    Check.due("19: 48 literals of a full image", p.patchSize(), 48);
  }

  // promise 20: "whose value is not the value of the corresponding old word"
  private static void unpredictedSizes() {
    Check.due("20: nothing", Images.built("", "", 1).unpredictedSize(), 0);
    Check.due("20: no new words", Images.built("1 2", "", 1).unpredictedSize(), 0);
    Check.due("20: a literal", Images.built("", "1", 1).unpredictedSize(), 1);
    Check.due("20: a block", Images.built("@1", "@1", 1).unpredictedSize(), 3);
    Check.due("20: one lower", Images.built("@1", "@0", 1).unpredictedSize(), 5);
    Check.due("20: one higher", Images.built("@1", "@2", 1).unpredictedSize(), 5);
    RelocatingPatch p = Images.built("@1", "0 @2", 1);
    Check.due("19: predicted", p.patchSize(), 4);
    Check.due("20: as predicted, not as before", p.unpredictedSize(), 6);
    p = Images.built("@1", "0 @1", 1);
    Check.due("19: not predicted", p.patchSize(), 6);
    Check.due("20: as before, not as predicted", p.unpredictedSize(), 4);
    p = Images.built("1 @0", "@9 1", 1);
    Check.due("20: a dropped block counts", p.unpredictedSize(), 8);
  }

  // promises 14 to 20: NOT_BUILT stands before BAD_VALUE and NO_SUCH_INDEX
  private static void notBuiltFirst() {
    RelocatingPatch p = Images.built("@1 2", "@3 2", 1);
    p.appendOld(1, false);
    for (int i : new int[] {0, 1, -1, 2, 48, 9999, 10000, Images.MIN, Images.MAX}) {
      Check.due("14: not built, " + i, p.predictedAddress(i), Images.NOT_BUILT);
      Check.due("15: not built, " + i, p.predictedValue(i), Images.NOT_BUILT);
      Check.due("17: not built, " + i, p.correctionIndex(i), Images.NOT_BUILT);
    }
    Check.due("16: not built", p.correctionCount(), Images.NOT_BUILT);
    Check.due("18: not built", p.literalCount(), Images.NOT_BUILT);
    Check.due("19: not built", p.patchSize(), Images.NOT_BUILT);
    Check.due("20: not built", p.unpredictedSize(), Images.NOT_BUILT);
  }
}
