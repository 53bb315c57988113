/**
 * A patch maker for two builds of a program image that differ mostly by addresses.
 * build finds the blocks and the copy order; the calls behind it work out the rest from these.
 */
public final class RelocatingPatch {
  public static final int BAD_VALUE = -10001;
  public static final int FULL = -10002;
  public static final int NO_SUCH_INDEX = -10003;
  public static final int NOT_BUILT = -10004;
  public static final int NONE = -10005;

  private static final int MOST_WORDS = 48;
  private static final int HIGHEST_VALUE = 9999;
  private static final int HIGHEST_MIN_LENGTH = 16;
  private static final int BLOCK_COST = 3;
  private static final int LITERAL_COST = 1;
  private static final int CORRECTION_COST = 2;
  private static final int NOWHERE = -1;

  private final Image oldImage;
  private final Image newImage;
  private final Blocks blocks;
  private final Aligner aligner;
  private final CopyOrder copyOrder;
  private boolean built;

  public RelocatingPatch() {
    oldImage = new Image();
    newImage = new Image();
    blocks = new Blocks();
    aligner = new Aligner();
    copyOrder = new CopyOrder();
    built = false;
  }

  // ---- images

  public int appendOld(int value, boolean address) {
    return append(oldImage, value, address);
  }

  public int appendNew(int value, boolean address) {
    return append(newImage, value, address);
  }

  public int setNew(int index, int value) {
    if (!newImage.holds(index)) {
      return NO_SUCH_INDEX;
    }
    if (!isValue(value)) {
      return BAD_VALUE;
    }
    int previous = newImage.valueAt(index);
    newImage.replace(index, value);
    built = false;
    return previous;
  }

  public int clear() {
    int removed = oldImage.size() + newImage.size();
    oldImage.removeAll();
    newImage.removeAll();
    built = false;
    return removed;
  }

  public int oldLength() {
    return oldImage.size();
  }

  public int newLength() {
    return newImage.size();
  }

  public int newValue(int index) {
    return newImage.holds(index) ? newImage.valueAt(index) : NO_SUCH_INDEX;
  }

  private int append(Image image, int value, boolean address) {
    if (!isValue(value)) {
      return BAD_VALUE;
    }
    if (image.isFull()) {
      return FULL;
    }
    image.add(value, address);
    built = false;
    return image.size() - 1;
  }

  private static boolean isValue(int value) {
    return value >= 0 && value <= HIGHEST_VALUE;
  }

  // ---- blocks

  public int build(int minLength) {
    if (minLength < 1 || minLength > HIGHEST_MIN_LENGTH) {
      return BAD_VALUE;
    }
    aligner.align(oldImage, newImage, blocks, minLength);
    copyOrder.arrange(blocks);
    built = true;
    return blocks.size();
  }

  public int blockOldStart(int block) {
    int error = blockError(block);
    return error != 0 ? error : blocks.oldStart(block);
  }

  public int blockNewStart(int block) {
    int error = blockError(block);
    return error != 0 ? error : blocks.newStart(block);
  }

  public int blockLength(int block) {
    int error = blockError(block);
    return error != 0 ? error : blocks.length(block);
  }

  public int blockOf(int index) {
    int error = newWordError(index);
    if (error != 0) {
      return error;
    }
    int block = blocks.withNewIndex(index);
    return block == NOWHERE ? NONE : block;
  }

  private int blockError(int block) {
    if (!built) {
      return NOT_BUILT;
    }
    return blocks.has(block) ? 0 : NO_SUCH_INDEX;
  }

  private int newWordError(int index) {
    if (!built) {
      return NOT_BUILT;
    }
    return newImage.holds(index) ? 0 : NO_SUCH_INDEX;
  }

  // ---- prediction

  public int predictedAddress(int address) {
    if (!built) {
      return NOT_BUILT;
    }
    return isValue(address) ? blocks.moved(address) : BAD_VALUE;
  }

  public int predictedValue(int index) {
    int error = newWordError(index);
    if (error != 0) {
      return error;
    }
    int block = blocks.withNewIndex(index);
    return block == NOWHERE ? NONE : prediction(block, index);
  }

  public int correctionCount() {
    return built ? corrections() : NOT_BUILT;
  }

  public int correctionIndex(int correction) {
    if (!built) {
      return NOT_BUILT;
    }
    int before = 0;
    for (int index = 0; index < newImage.size(); index++) {
      if (needsCorrection(index)) {
        if (before == correction) {
          return index;
        }
        before++;
      }
    }
    return NO_SUCH_INDEX;
  }

  public int literalCount() {
    return built ? literals() : NOT_BUILT;
  }

  public int patchSize() {
    return built ? blocksAndLiteralsCost() + corrections() * CORRECTION_COST : NOT_BUILT;
  }

  public int unpredictedSize() {
    return built ? blocksAndLiteralsCost() + changedWords() * CORRECTION_COST : NOT_BUILT;
  }

  private int prediction(int block, int index) {
    int oldIndex = blocks.oldIndex(block, index);
    int value = oldImage.valueAt(oldIndex);
    return oldImage.isAddress(oldIndex) ? blocks.moved(value) : value;
  }

  private boolean needsCorrection(int index) {
    int block = blocks.withNewIndex(index);
    return block != NOWHERE && prediction(block, index) != newImage.valueAt(index);
  }

  private boolean isChanged(int index) {
    int block = blocks.withNewIndex(index);
    return block != NOWHERE
        && oldImage.valueAt(blocks.oldIndex(block, index)) != newImage.valueAt(index);
  }

  private int corrections() {
    int count = 0;
    for (int index = 0; index < newImage.size(); index++) {
      if (needsCorrection(index)) {
        count++;
      }
    }
    return count;
  }

  private int changedWords() {
    int count = 0;
    for (int index = 0; index < newImage.size(); index++) {
      if (isChanged(index)) {
        count++;
      }
    }
    return count;
  }

  private int literals() {
    int count = newImage.size();
    for (int block = 0; block < blocks.size(); block++) {
      count -= blocks.length(block);
    }
    return count;
  }

  private int blocksAndLiteralsCost() {
    return blocks.size() * BLOCK_COST + literals() * LITERAL_COST;
  }

  // ---- in place

  public int copyCount() {
    return built ? copyOrder.steps() : NOT_BUILT;
  }

  public int copyStep(int step) {
    if (!built) {
      return NOT_BUILT;
    }
    return copyOrder.hasStep(step) ? copyOrder.blockOfStep(step) : NO_SUCH_INDEX;
  }

  public int isDropped(int block) {
    int error = blockError(block);
    if (error != 0) {
      return error;
    }
    return copyOrder.drops(block) ? 1 : 0;
  }

  public int inPlaceSize() {
    if (!built) {
      return NOT_BUILT;
    }
    int size = copyOrder.steps() * BLOCK_COST;
    for (int index = 0; index < newImage.size(); index++) {
      size += inPlaceWordCost(index);
    }
    return size;
  }

  public int memoryAfter(int steps, int index) {
    if (!built) {
      return NOT_BUILT;
    }
    if (steps < 0 || steps > copyOrder.steps()) {
      return BAD_VALUE;
    }
    int memoryLength = Math.max(oldImage.size(), newImage.size());
    if (index < 0 || index >= memoryLength) {
      return NO_SUCH_INDEX;
    }
    return memoryValue(steps, index);
  }

  public int patchedValue(int index) {
    int error = newWordError(index);
    if (error != 0) {
      return error;
    }
    if (!isCopied(index) || needsCorrection(index)) {
      return newImage.valueAt(index);
    }
    int value = memoryValue(copyOrder.steps(), index);
    int oldIndex = blocks.oldIndex(blocks.withNewIndex(index), index);
    return oldImage.isAddress(oldIndex) ? blocks.moved(value) : value;
  }

  private boolean isCopied(int index) {
    int block = blocks.withNewIndex(index);
    return block != NOWHERE && !copyOrder.drops(block);
  }

  private int inPlaceWordCost(int index) {
    if (!isCopied(index)) {
      return LITERAL_COST;
    }
    return needsCorrection(index) ? CORRECTION_COST : 0;
  }

  private int memoryValue(int steps, int index) {
    return oldImage.valueAt(copyOrder.origin(blocks, steps, index));
  }

  /** The words of one build. Reading behind the last word answers 0, as the memory does there. */
  private static final class Image {
    private final int[] values;
    private final boolean[] addresses;
    private int size;

    Image() {
      values = new int[MOST_WORDS];
      addresses = new boolean[MOST_WORDS];
      size = 0;
    }

    int size() {
      return size;
    }

    boolean isFull() {
      return size >= MOST_WORDS;
    }

    boolean holds(int index) {
      return index >= 0 && index < size;
    }

    int valueAt(int index) {
      return holds(index) ? values[index] : 0;
    }

    boolean isAddress(int index) {
      return holds(index) && addresses[index];
    }

    void add(int value, boolean address) {
      if (isFull()) {
        return;
      }
      values[size] = value;
      addresses[size] = address;
      size++;
    }

    void replace(int index, int value) {
      if (holds(index)) {
        values[index] = value;
      }
    }

    void removeAll() {
      size = 0;
    }
  }

  /** The blocks of a patch, numbered in the order of newStart. */
  private static final class Blocks {
    private final int[] oldStarts;
    private final int[] newStarts;
    private final int[] lengths;
    private int size;

    Blocks() {
      oldStarts = new int[MOST_WORDS];
      newStarts = new int[MOST_WORDS];
      lengths = new int[MOST_WORDS];
      size = 0;
    }

    int size() {
      return size;
    }

    boolean has(int block) {
      return block >= 0 && block < size;
    }

    int oldStart(int block) {
      return has(block) ? oldStarts[block] : 0;
    }

    int newStart(int block) {
      return has(block) ? newStarts[block] : 0;
    }

    int length(int block) {
      return has(block) ? lengths[block] : 0;
    }

    int oldIndex(int block, int newIndex) {
      return newIndex - newStart(block) + oldStart(block);
    }

    boolean covers(int block, int newIndex) {
      int start = newStart(block);
      return newIndex >= start && newIndex < start + length(block);
    }

    int withNewIndex(int index) {
      for (int block = 0; block < size; block++) {
        if (covers(block, index)) {
          return block;
        }
      }
      return NOWHERE;
    }

    int moved(int address) {
      int guide = NOWHERE;
      for (int block = 0; block < size; block++) {
        int start = oldStart(block);
        if (start <= address && (guide == NOWHERE || start > oldStart(guide))) {
          guide = block;
        }
      }
      return guide == NOWHERE ? address : address + newStart(guide) - oldStart(guide);
    }

    /** Whether one block writes into what another has to read before. */
    boolean mustGoBefore(int reader, int writer) {
      return reader != writer
          && newStart(writer) < oldStart(reader) + length(reader)
          && oldStart(reader) < newStart(writer) + length(writer);
    }

    void removeAll() {
      size = 0;
    }

    void insert(int oldStart, int newStart, int length) {
      if (size >= MOST_WORDS) {
        return;
      }
      int place = size;
      while (place > 0 && newStarts[place - 1] > newStart) {
        oldStarts[place] = oldStarts[place - 1];
        newStarts[place] = newStarts[place - 1];
        lengths[place] = lengths[place - 1];
        place--;
      }
      oldStarts[place] = oldStart;
      newStarts[place] = newStart;
      lengths[place] = length;
      size++;
    }
  }

  /** Finds the blocks greedily, the longest run of matching free words first. */
  private static final class Aligner {
    private final boolean[] oldTaken;
    private final boolean[] newTaken;
    private final int[] runs;
    private int bestOld;
    private int bestNew;
    private int bestLength;

    Aligner() {
      oldTaken = new boolean[MOST_WORDS];
      newTaken = new boolean[MOST_WORDS];
      runs = new int[MOST_WORDS + 1];
      bestOld = 0;
      bestNew = 0;
      bestLength = 0;
    }

    void align(Image oldImage, Image newImage, Blocks blocks, int minLength) {
      blocks.removeAll();
      freeAllWords();
      // Every block takes at least one word, so there are never more rounds than words.
      for (int round = 0; round < MOST_WORDS; round++) {
        findLongestRun(oldImage, newImage);
        if (bestLength < minLength) {
          return;
        }
        takeLongestRun();
        blocks.insert(bestOld, bestNew, bestLength);
      }
    }

    private void freeAllWords() {
      for (int index = 0; index < MOST_WORDS; index++) {
        oldTaken[index] = false;
        newTaken[index] = false;
      }
    }

    /**
     * Goes from the last new word to the first, since a run is one longer than the run
     * from the next word of both images on: runs keeps those, by start in the old image.
     */
    private void findLongestRun(Image oldImage, Image newImage) {
      bestOld = 0;
      bestNew = 0;
      bestLength = 0;
      for (int oldStart = 0; oldStart <= MOST_WORDS; oldStart++) {
        runs[oldStart] = 0;
      }
      for (int newStart = newImage.size() - 1; newStart >= 0; newStart--) {
        extendRuns(oldImage, newImage, newStart);
      }
    }

    private void extendRuns(Image oldImage, Image newImage, int newStart) {
      for (int oldStart = 0; oldStart < oldImage.size() && oldStart < MOST_WORDS; oldStart++) {
        boolean runStarts = isFree(oldStart, newStart)
            && wordsMatch(oldImage, oldStart, newImage, newStart);
        // The next entry is still that of the next new word, as it is written only later.
        int length = runStarts ? runs[oldStart + 1] + 1 : 0;
        runs[oldStart] = length;
        if (isBetter(length, newStart)) {
          bestLength = length;
          bestNew = newStart;
          bestOld = oldStart;
        }
      }
    }

    /** Lower starts in the old image come first: an equal run of the same newStart is no better. */
    private boolean isBetter(int length, int newStart) {
      return length > bestLength || (length == bestLength && newStart < bestNew);
    }

    private boolean isFree(int oldIndex, int newIndex) {
      return oldIndex >= 0 && oldIndex < MOST_WORDS && !oldTaken[oldIndex]
          && newIndex >= 0 && newIndex < MOST_WORDS && !newTaken[newIndex];
    }

    private static boolean wordsMatch(Image oldImage, int oldIndex, Image newImage, int newIndex) {
      boolean address = oldImage.isAddress(oldIndex);
      if (address != newImage.isAddress(newIndex)) {
        return false;
      }
      return address || oldImage.valueAt(oldIndex) == newImage.valueAt(newIndex);
    }

    private void takeLongestRun() {
      for (int k = 0; k < bestLength; k++) {
        if (isFree(bestOld + k, bestNew + k)) {
          oldTaken[bestOld + k] = true;
          newTaken[bestNew + k] = true;
        }
      }
    }
  }

  /** The order in which the blocks can be copied in one memory, and the blocks that cannot. */
  private static final class CopyOrder {
    private final int[] order;
    private final boolean[] waiting;
    private final boolean[] dropped;
    private int steps;

    CopyOrder() {
      order = new int[MOST_WORDS];
      waiting = new boolean[MOST_WORDS];
      dropped = new boolean[MOST_WORDS];
      steps = 0;
    }

    int steps() {
      return steps;
    }

    boolean hasStep(int step) {
      return step >= 0 && step < steps;
    }

    int blockOfStep(int step) {
      return hasStep(step) ? order[step] : NOWHERE;
    }

    boolean drops(int block) {
      return block >= 0 && block < MOST_WORDS && dropped[block];
    }

    /** Where the value that stands at an index after some steps stood at first. */
    int origin(Blocks blocks, int stepsDone, int index) {
      int place = index;
      for (int step = stepsDone - 1; step >= 0; step--) {
        int block = blockOfStep(step);
        if (blocks.covers(block, place)) {
          place = blocks.oldIndex(block, place);
        }
      }
      return place;
    }

    void arrange(Blocks blocks) {
      steps = 0;
      for (int block = 0; block < MOST_WORDS; block++) {
        waiting[block] = blocks.has(block);
        dropped[block] = false;
      }
      // Each turn copies or drops one block.
      for (int turn = 0; turn < blocks.size(); turn++) {
        int ready = firstReady(blocks);
        if (ready != NOWHERE) {
          copy(ready);
        } else {
          drop(shortestWaiting(blocks));
        }
      }
    }

    private boolean waits(int block) {
      return block >= 0 && block < MOST_WORDS && waiting[block];
    }

    private int firstReady(Blocks blocks) {
      for (int block = 0; block < blocks.size(); block++) {
        if (waits(block) && isReady(blocks, block)) {
          return block;
        }
      }
      return NOWHERE;
    }

    private boolean isReady(Blocks blocks, int block) {
      for (int other = 0; other < blocks.size(); other++) {
        if (waits(other) && blocks.mustGoBefore(other, block)) {
          return false;
        }
      }
      return true;
    }

    private int shortestWaiting(Blocks blocks) {
      int shortest = NOWHERE;
      for (int block = 0; block < blocks.size(); block++) {
        if (waits(block)
            && (shortest == NOWHERE || blocks.length(block) < blocks.length(shortest))) {
          shortest = block;
        }
      }
      return shortest;
    }

    private void copy(int block) {
      if (waits(block) && steps < MOST_WORDS) {
        waiting[block] = false;
        order[steps] = block;
        steps++;
      }
    }

    private void drop(int block) {
      if (waits(block)) {
        waiting[block] = false;
        dropped[block] = true;
      }
    }
  }
}
