/** The boundary cases of the description's "Blocks" and of promises 9 to 13. */
public final class BlockBoundsTest {
  private static final int[] NO_BLOCKS = {
    -1, 3, 4, 47, 48, Images.MIN, Images.MIN + 1, Images.MAX - 1, Images.MAX};

  private BlockBoundsTest() {
  }

  public static void main(String[] args) {
    minLengths();
    minLengthRefused();
    runsAsLongAsMinLength();
    matchingWords();
    emptyImages();
    whereRunsEnd();
    runsAtTheLastWords();
    runsEndAtUsedWords();
    longestBeforeLowest();
    lowestNewStart();
    lowestOldStart();
    numberedByNewStart();
    noBlockSharesWords();
    mostBlocks();
    longestBlock();
    buildForgetsBlocks();
    blockNumbers();
    blockNumbersWithoutBlocks();
    blockOfEdges();
    blockOfIndexes();
    blockOfDropped();
    notBuiltFirst();
    Check.end("BlockBoundsTest");
  }

  // promise 9: "the shortest block to use, 1 to 16"
  private static void minLengths() {
    RelocatingPatch p = Images.of("1", "1");
    for (int bad : new int[] {0, -1, 17, 18, 48, 65537, Images.MIN, Images.MIN + 1, Images.MAX}) {
      Check.due("9: minLength " + bad, p.build(bad), Images.BAD_VALUE);
    }
    Check.due("9: minLength 1", p.build(1), 1);
    for (int length = 2; length <= 16; length++) {
      Check.due("9: minLength " + length, p.build(length), 0);
    }
  }

  private static void minLengthRefused() {
    RelocatingPatch p = Images.of("1 2", "1 2");
    p.build(0);
    Check.due("9: 0 builds nothing", p.literalCount(), Images.NOT_BUILT);
    p.build(17);
    Check.due("9: 17 builds nothing", p.literalCount(), Images.NOT_BUILT);
    p.build(2);
    for (int bad : new int[] {0, 17, Images.MIN, Images.MAX}) {
      Check.due("9: refused", p.build(bad), Images.BAD_VALUE);
      Images.block("9: the patch stays as it was built", p, 0, 0, 0, 2);
      Check.due("9: its copy order too", p.copyCount(), 1);
    }
  }

  // "It stops when the longest run is shorter than minLength"
  private static void runsAsLongAsMinLength() {
    for (int length = 1; length <= 16; length++) {
      String shorter = Images.up(0, length - 1);
      String equal = Images.up(0, length);
      String longer = Images.up(0, length + 1);
      Check.due("9: shorter than " + length, Images.of(shorter, shorter).build(length), 0);
      RelocatingPatch p = Images.of(equal, equal);
      Check.due("9: just " + length, p.build(length), 1);
      Images.block("9: just " + length, p, 0, 0, 0, length);
      p = Images.of(longer, longer);
      Check.due("9: longer than " + length, p.build(length), 1);
      Images.block("9: longer than " + length, p, 0, 0, 0, length + 1);
    }
    RelocatingPatch p = Images.of("1 2 3 90 4 5 91 6", "6 80 4 5 81 1 2 3");
    Check.due("9: three, two and one word", p.build(1), 3);
    Check.due("9: three and two words", p.build(2), 2);
    Check.due("9: three words", p.build(3), 1);
    Check.due("9: none", p.build(4), 0);
  }

  // "Two words match if both are addresses (whatever their values are), or .."
  private static void matchingWords() {
    Check.due("9: addresses 0 and 9999", Images.of("@0", "@9999").build(1), 1);
    Check.due("9: addresses 9999 and 0", Images.of("@9999", "@0").build(1), 1);
    Check.due("9: equal addresses", Images.of("@5", "@5").build(1), 1);
    Check.due("9: values 0", Images.of("0", "0").build(1), 1);
    Check.due("9: values 9999", Images.of("9999", "9999").build(1), 1);
    Check.due("9: values 0 and 9999", Images.of("0", "9999").build(1), 0);
    Check.due("9: values 9998 and 9999", Images.of("9998", "9999").build(1), 0);
    Check.due("9: address 5 and value 5", Images.of("@5", "5").build(1), 0);
    Check.due("9: value 5 and address 5", Images.of("5", "@5").build(1), 0);
    Check.due("9: address 0 and value 0", Images.of("@0", "0").build(1), 0);
    Check.due("9: value 0 and address 0", Images.of("0", "@0").build(1), 0);
  }

  private static void emptyImages() {
    Check.due("9: both empty", new RelocatingPatch().build(1), 0);
    Check.due("9: old empty", Images.of("", Images.same("0", 48)).build(1), 0);
    Check.due("9: new empty", Images.of(Images.same("0", 48), "").build(1), 0);
    Check.due("9: addresses, old empty", Images.of("", "@0").build(1), 0);
    Check.due("9: addresses, new empty", Images.of("@0", "").build(1), 0);
  }

  private static void whereRunsEnd() {
    RelocatingPatch p = Images.built("1 2", "1 2 3", 1);
    Images.block("9: ends with the old image", p, 0, 0, 0, 2);
    p = Images.built("1 2 3", "1 2", 1);
    Images.block("9: ends with the new image", p, 0, 0, 0, 2);
    p = Images.built("1 2 3", "1 2 4", 1);
    Images.block("9: ends where words differ", p, 0, 0, 0, 2);
    p = Images.built("1 2 3", "1 2 @3", 1);
    Images.block("9: ends where flags differ", p, 0, 0, 0, 2);
    p = Images.built("1", "0 0", 1);
    Check.due("9: no 0 stands behind the old image", p.blockLength(0), Images.NO_SUCH_INDEX);
    p = Images.built("0 0", "1", 1);
    Check.due("9: no 0 stands behind the new image", p.blockLength(0), Images.NO_SUCH_INDEX);
  }

  private static void runsAtTheLastWords() {
    RelocatingPatch p = Images.built("7 5", "8 5", 1);
    Images.block("9: the last of two", p, 0, 1, 1, 1);
    p = Images.built(Images.up(100, 47) + "5", Images.up(200, 47) + "5", 1);
    Check.due("9: the last of 48, blocks", p.build(1), 1);
    Images.block("9: the last of 48", p, 0, 47, 47, 1);
    p = Images.built(Images.up(100, 47) + "5", "5", 1);
    Images.block("9: the last of 48 and the first", p, 0, 47, 0, 1);
    p = Images.built("5", Images.up(100, 47) + "5", 1);
    Images.block("9: the first and the last of 48", p, 0, 0, 47, 1);
  }

  // "in which no word of either image is part of a block yet"
  private static void runsEndAtUsedWords() {
    RelocatingPatch p = Images.of("1 2 3 4 5", "2 3 4 8 1 2");
    Check.due("9: used old words, 1", p.build(1), 2);
    Images.block("9: the longest", p, 0, 1, 0, 3);
    Images.block("9: cut before a used old word", p, 1, 0, 4, 1);
    Check.due("9: used old words, 2", p.build(2), 1);
    p = Images.of("2 3 4 8 1 2", "1 2 3 4 5");
    Check.due("9: used new words, 1", p.build(1), 2);
    Images.block("9: cut before a used new word", p, 0, 4, 0, 1);
    Images.block("9: the longest", p, 1, 0, 1, 3);
    Check.due("9: used new words, 2", p.build(2), 1);
    p = Images.built("1 2 3", "1 2 3 2 3", 1);
    Check.due("9: used old words at the start of a run", p.literalCount(), 2);
    p = Images.built("1 2 3 2 3", "1 2 3", 1);
    Check.due("9: used new words at the start of a run", p.build(1), 1);
  }

  // "It takes the longest run as a new block"
  private static void longestBeforeLowest() {
    RelocatingPatch p = Images.built("1 2 3 9 1 2", "1 2 8 1 2 3", 1);
    Images.block("9: the longer one has the higher newStart", p, 1, 0, 3, 3);
    Images.block("9: the shorter one takes what is left", p, 0, 4, 0, 2);
    p = Images.built("1 2 9 1 2 3", "1 2 3", 1);
    Images.block("9: the longer one has the higher oldStart", p, 0, 3, 0, 3);
    Check.due("9: and leaves nothing", p.literalCount(), 0);
  }

  // "If several runs are longest, it takes the one with the lowest newStart"
  private static void lowestNewStart() {
    RelocatingPatch p = Images.built("1 2 3", "1 2 9 2 3", 1);
    Images.block("9: lowest newStart", p, 0, 0, 0, 2);
    Images.block("9: lowest newStart, the rest", p, 1, 2, 4, 1);
    p = Images.built("1 2 3", "2 3 9 1 2", 1);
    Images.block("9: lowest newStart, higher oldStart", p, 0, 1, 0, 2);
    Images.block("9: lowest newStart, higher oldStart, the rest", p, 1, 0, 3, 1);
    p = Images.built("90 91 92 93 5", "5 80 5", 1);
    Images.block("9: lowest newStart, the last old word", p, 0, 4, 0, 1);
    p = Images.built("5", "5 5 5", 1);
    Images.block("9: the first of three", p, 0, 0, 0, 1);
    p = Images.built("5", Images.same("5", 48), 1);
    Images.block("9: the first of 48", p, 0, 0, 0, 1);
  }

  // "if there are still several, the one with the lowest oldStart"
  private static void lowestOldStart() {
    RelocatingPatch p = Images.built("5 6 9 5 6", "5 6", 1);
    Images.block("9: lowest oldStart", p, 0, 0, 0, 2);
    p = Images.built("5 90 5", "80 81 82 5", 1);
    Images.block("9: lowest oldStart, the last new word", p, 0, 0, 3, 1);
    p = Images.built(Images.same("5", 48), "5", 1);
    Images.block("9: the first of 48", p, 0, 0, 0, 1);
    p = Images.built(Images.same("5", 48), Images.up(100, 47) + "5", 1);
    Images.block("9: the first of 48 for the last of 48", p, 0, 0, 47, 1);
    p = Images.built("9 @1 8 @2 7 @3", "@4", 1);
    Images.block("9: the first address", p, 0, 1, 0, 1);
    p = Images.built("5 9 5 8 5", "5 1 5", 1);
    Images.block("9: the first of three", p, 0, 0, 0, 1);
    Images.block("9: then the second", p, 1, 2, 2, 1);
  }

  // "The blocks are then numbered from 0 in the order of newStart"
  private static void numberedByNewStart() {
    RelocatingPatch p = Images.of("1 2 3 90 4 5 91 6", "6 80 4 5 81 1 2 3");
    Check.due("9: three blocks", p.build(1), 3);
    Images.block("9: found last", p, 0, 7, 0, 1);
    Images.block("9: found second", p, 1, 4, 2, 2);
    Images.block("9: found first", p, 2, 0, 5, 3);
    p = Images.of("1 90 2 3 91 4 5 6", "2 3 80 1 81 4 5 6");
    Check.due("9: three other blocks", p.build(1), 3);
    Images.block("9: in the middle found last", p, 1, 0, 3, 1);
  }

  // "Blocks do not overlap in the old image, and they do not overlap in the new image"
  private static void noBlockSharesWords() {
    RelocatingPatch p = Images.of(Images.same("5", 5), Images.same("5", 3) + "1 5 5 5");
    Check.due("9: equal words", p.build(1), 2);
    Images.block("9: three of five", p, 0, 0, 0, 3);
    Images.block("9: the two that are left", p, 1, 3, 4, 2);
    Check.due("9: one is left over", p.literalCount(), 2);
    p = Images.of(Images.same("@1", 3) + "1 @1 @1 @1", Images.same("@9", 5));
    Check.due("9: addresses", p.build(1), 2);
    Images.block("9: three of five addresses", p, 0, 0, 0, 3);
    Images.block("9: two addresses", p, 1, 4, 3, 2);
  }

  private static void mostBlocks() {
    RelocatingPatch p = Images.of(Images.up(0, 48), Images.down(47, 48));
    Check.due("9: 48 blocks", p.build(1), 48);
    for (int block = 0; block < Images.MOST; block++) {
      Images.block("9: of 48", p, block, 47 - block, block, 1);
    }
    Check.due("10: behind 48", p.blockOldStart(48), Images.NO_SUCH_INDEX);
    Check.due("11: behind 48", p.blockNewStart(48), Images.NO_SUCH_INDEX);
    Check.due("12: behind 48", p.blockLength(48), Images.NO_SUCH_INDEX);
    Check.due("13: first of 48", p.blockOf(0), 0);
    Check.due("13: last of 48", p.blockOf(47), 47);
    Check.due("9: no pair of words in order", p.build(2), 0);
  }

  private static void longestBlock() {
    RelocatingPatch p = Images.of(Images.up(0, 48), Images.up(0, 48));
    for (int minLength : new int[] {1, 15, 16}) {
      Check.due("9: one block of 48, " + minLength, p.build(minLength), 1);
      Images.block("9: one block of 48", p, 0, 0, 0, 48);
    }
    Check.due("10: one block", p.blockOldStart(1), Images.NO_SUCH_INDEX);
    Check.due("13: its last word", p.blockOf(47), 0);
    Check.due("13: behind it", p.blockOf(48), Images.NO_SUCH_INDEX);
    p = Images.of("7 " + Images.up(100, 47), Images.up(100, 47) + "8");
    Check.due("9: one block of 47", p.build(16), 1);
    Images.block("9: one block of 47", p, 0, 1, 0, 47);
  }

  // "It starts without blocks"
  private static void buildForgetsBlocks() {
    RelocatingPatch p = Images.of("1 2 3 90 4", "4 80 1 2 3");
    Check.due("9: two", p.build(1), 2);
    Check.due("9: one", p.build(2), 1);
    Images.block("9: one", p, 0, 0, 2, 3);
    Check.due("10: the second is gone", p.blockOldStart(1), Images.NO_SUCH_INDEX);
    Check.due("13: its word is a literal", p.blockOf(0), Images.NONE);
    Check.due("9: none", p.build(16), 0);
    Check.due("12: none", p.blockLength(0), Images.NO_SUCH_INDEX);
    Check.due("9: two again", p.build(1), 2);
    Check.due("9: two the same way", p.build(1), 2);
    Images.block("9: two again", p, 0, 4, 0, 1);
  }

  // promises 10 to 12: "the number of a block"
  private static void blockNumbers() {
    RelocatingPatch p = Images.built("1 2 3 90 4 5 91 6", "6 80 4 5 81 1 2 3", 1);
    for (int block : NO_BLOCKS) {
      Check.due("10: block " + block, p.blockOldStart(block), Images.NO_SUCH_INDEX);
      Check.due("11: block " + block, p.blockNewStart(block), Images.NO_SUCH_INDEX);
      Check.due("12: block " + block, p.blockLength(block), Images.NO_SUCH_INDEX);
    }
    Images.block("10 to 12: the first", p, 0, 7, 0, 1);
    Images.block("10 to 12: the last", p, 2, 0, 5, 3);
  }

  private static void blockNumbersWithoutBlocks() {
    RelocatingPatch p = Images.built("1 2", "3 4", 1);
    for (int block : new int[] {-1, 0, 1, Images.MIN, Images.MAX}) {
      Check.due("10: no blocks, " + block, p.blockOldStart(block), Images.NO_SUCH_INDEX);
      Check.due("11: no blocks, " + block, p.blockNewStart(block), Images.NO_SUCH_INDEX);
      Check.due("12: no blocks, " + block, p.blockLength(block), Images.NO_SUCH_INDEX);
    }
  }

  // promise 13: "NONE if the word is a literal"
  private static void blockOfEdges() {
    RelocatingPatch p = Images.built("1 2 3 9 4 5", "80 1 2 3 81 4 5 82", 1);
    int[] due = {Images.NONE, 0, 0, 0, Images.NONE, 1, 1, Images.NONE};
    for (int index = 0; index < due.length; index++) {
      Check.due("13: word " + index, p.blockOf(index), due[index]);
    }
    p = Images.built("4 5 1 2 3", "1 2 3 4 5", 1);
    int[] adjacent = {0, 0, 0, 1, 1};
    for (int index = 0; index < adjacent.length; index++) {
      Check.due("13: adjacent blocks, " + index, p.blockOf(index), adjacent[index]);
    }
    p = Images.built("", Images.up(0, 48), 1);
    Check.due("13: the first is a literal", p.blockOf(0), Images.NONE);
    Check.due("13: the 48th is a literal", p.blockOf(47), Images.NONE);
    Check.due("13: NONE is no error and no change", p.literalCount(), 48);
  }

  // promise 13: "the index of a word of the new image"
  private static void blockOfIndexes() {
    RelocatingPatch p = Images.built("1 2 3", "1 2", 1);
    for (int index : new int[] {-1, 2, 3, 47, 48, Images.MIN, Images.MAX}) {
      Check.due("13: index " + index, p.blockOf(index), Images.NO_SUCH_INDEX);
    }
    p = Images.built("1 2 3", "", 1);
    Check.due("13: no new word", p.blockOf(0), Images.NO_SUCH_INDEX);
  }

  // a dropped block stays a block, and its words are part of it
  private static void blockOfDropped() {
    RelocatingPatch p = Images.built("1 2", "2 1", 1);
    Check.due("13: dropped", p.isDropped(0), 1);
    Check.due("13: its word", p.blockOf(0), 0);
    Images.block("10 to 12: dropped", p, 0, 1, 0, 1);
  }

  // promises 10 to 13: NOT_BUILT stands before NO_SUCH_INDEX
  private static void notBuiltFirst() {
    RelocatingPatch p = Images.built("1 2", "1 2", 1);
    p.setNew(0, 1);
    for (int i : new int[] {0, 1, -1, 2, 48, Images.MIN, Images.MAX}) {
      Check.due("10: not built, " + i, p.blockOldStart(i), Images.NOT_BUILT);
      Check.due("11: not built, " + i, p.blockNewStart(i), Images.NOT_BUILT);
      Check.due("12: not built, " + i, p.blockLength(i), Images.NOT_BUILT);
      Check.due("13: not built, " + i, p.blockOf(i), Images.NOT_BUILT);
    }
  }
}
