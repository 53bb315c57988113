import java.util.ArrayList;
import java.util.Comparator;
import java.util.HashSet;
import java.util.List;
import java.util.Set;

/**
 * The document once more, written as near to its words as can be and without regard to speed.
 * It shares no code and no way of reckoning with the class that it is compared with.
 */
final class Model {
  record Word(int value, boolean address) {
  }

  record Block(int oldStart, int newStart, int length) {
    Set<Integer> oldRange() {
      return range(oldStart, length);
    }

    Set<Integer> newRange() {
      return range(newStart, length);
    }
  }

  private static final int BAD_VALUE = -10001;
  private static final int FULL = -10002;
  private static final int NO_SUCH_INDEX = -10003;
  private static final int NOT_BUILT = -10004;
  private static final int NONE = -10005;

  private final List<Word> oldWords = new ArrayList<>();
  private final List<Word> newWords = new ArrayList<>();
  private List<Block> blocks = null;
  private List<Integer> order = null;

  private static Set<Integer> range(int start, int length) {
    Set<Integer> indexes = new HashSet<>();
    for (int k = 0; k < length; k++) {
      indexes.add(start + k);
    }
    return indexes;
  }

  int appendOld(int value, boolean address) {
    return append(oldWords, value, address);
  }

  int appendNew(int value, boolean address) {
    return append(newWords, value, address);
  }

  private int append(List<Word> words, int value, boolean address) {
    if (value < 0 || value > 9999) {
      return BAD_VALUE;
    }
    if (words.size() == 48) {
      return FULL;
    }
    words.add(new Word(value, address));
    blocks = null;
    return words.size() - 1;
  }

  int setNew(int index, int value) {
    if (index < 0 || index >= newWords.size()) {
      return NO_SUCH_INDEX;
    }
    if (value < 0 || value > 9999) {
      return BAD_VALUE;
    }
    blocks = null;
    return newWords.set(index, new Word(value, newWords.get(index).address())).value();
  }

  int clear() {
    int removed = oldWords.size() + newWords.size();
    oldWords.clear();
    newWords.clear();
    blocks = null;
    return removed;
  }

  int oldLength() {
    return oldWords.size();
  }

  int newLength() {
    return newWords.size();
  }

  int newValue(int index) {
    return index < 0 || index >= newWords.size() ? NO_SUCH_INDEX : newWords.get(index).value();
  }

  int build(int minLength) {
    if (minLength < 1 || minLength > 16) {
      return BAD_VALUE;
    }
    List<Block> found = new ArrayList<>();
    Set<Integer> oldUsed = new HashSet<>();
    Set<Integer> newUsed = new HashSet<>();
    while (true) {
      Block best = longest(oldUsed, newUsed);
      if (best == null || best.length() < minLength) {
        break;
      }
      found.add(best);
      oldUsed.addAll(best.oldRange());
      newUsed.addAll(best.newRange());
    }
    found.sort(Comparator.comparingInt(Block::newStart));
    blocks = found;
    order = copyOrder();
    return blocks.size();
  }

  private Block longest(Set<Integer> oldUsed, Set<Integer> newUsed) {
    Block best = null;
    for (int n = 0; n < newWords.size(); n++) {
      for (int o = 0; o < oldWords.size(); o++) {
        int k = 0;
        while (o + k < oldWords.size() && n + k < newWords.size()
            && !oldUsed.contains(o + k) && !newUsed.contains(n + k)
            && match(oldWords.get(o + k), newWords.get(n + k))) {
          k++;
        }
        if (k > 0 && (best == null || k > best.length())) {
          best = new Block(o, n, k);
        }
      }
    }
    return best;
  }

  private static boolean match(Word a, Word b) {
    return a.address() && b.address()
        || !a.address() && !b.address() && a.value() == b.value();
  }

  private boolean mustPrecede(int x, int y) {
    Set<Integer> shared = blocks.get(y).newRange();
    shared.retainAll(blocks.get(x).oldRange());
    return x != y && !shared.isEmpty();
  }

  private List<Integer> copyOrder() {
    List<Integer> copied = new ArrayList<>();
    List<Integer> remaining = new ArrayList<>(range(0, blocks.size()));
    remaining.sort(null);
    while (!remaining.isEmpty()) {
      Integer next = null;
      for (Integer y : remaining) {
        if (next == null && remaining.stream().noneMatch(x -> mustPrecede(x, y))) {
          next = y;
        }
      }
      if (next != null) {
        copied.add(next);
      } else {
        next = remaining.stream().min(Comparator
            .comparingInt((Integer b) -> blocks.get(b).length()).thenComparing(b -> b)).get();
      }
      remaining.remove(next);
    }
    return copied;
  }

  private int blockCall(int block, java.util.function.ToIntFunction<Block> what) {
    if (blocks == null) {
      return NOT_BUILT;
    }
    if (block < 0 || block >= blocks.size()) {
      return NO_SUCH_INDEX;
    }
    return what.applyAsInt(blocks.get(block));
  }

  int blockOldStart(int block) {
    return blockCall(block, Block::oldStart);
  }

  int blockNewStart(int block) {
    return blockCall(block, Block::newStart);
  }

  int blockLength(int block) {
    return blockCall(block, Block::length);
  }

  int isDropped(int block) {
    return blockCall(block, b -> order.contains(block) ? 0 : 1);
  }

  int blockOf(int index) {
    if (blocks == null) {
      return NOT_BUILT;
    }
    if (index < 0 || index >= newWords.size()) {
      return NO_SUCH_INDEX;
    }
    for (int b = 0; b < blocks.size(); b++) {
      if (blocks.get(b).newRange().contains(index)) {
        return b;
      }
    }
    return NONE;
  }

  int predictedAddress(int address) {
    if (blocks == null) {
      return NOT_BUILT;
    }
    if (address < 0 || address > 9999) {
      return BAD_VALUE;
    }
    return blocks.stream().filter(b -> b.oldStart() <= address)
        .max(Comparator.comparingInt(Block::oldStart))
        .map(b -> address + b.newStart() - b.oldStart()).orElse(address);
  }

  private Word oldWordOf(int index) {
    Block b = blocks.get(blockOf(index));
    return oldWords.get(b.oldStart() + index - b.newStart());
  }

  int predictedValue(int index) {
    int block = blockOf(index);
    if (block < 0) {
      return block;
    }
    Word word = oldWordOf(index);
    return word.address() ? predictedAddress(word.value()) : word.value();
  }

  private List<Integer> corrections() {
    List<Integer> indexes = new ArrayList<>();
    for (int i = 0; i < newWords.size(); i++) {
      if (blockOf(i) != NONE && predictedValue(i) != newValue(i)) {
        indexes.add(i);
      }
    }
    return indexes;
  }

  int correctionCount() {
    return blocks == null ? NOT_BUILT : corrections().size();
  }

  int correctionIndex(int correction) {
    if (blocks == null) {
      return NOT_BUILT;
    }
    List<Integer> all = corrections();
    return correction < 0 || correction >= all.size() ? NO_SUCH_INDEX : all.get(correction);
  }

  int literalCount() {
    if (blocks == null) {
      return NOT_BUILT;
    }
    int count = 0;
    for (int i = 0; i < newWords.size(); i++) {
      count += blockOf(i) == NONE ? 1 : 0;
    }
    return count;
  }

  int patchSize() {
    return blocks == null ? NOT_BUILT
        : 3 * blocks.size() + literalCount() + 2 * corrections().size();
  }

  int unpredictedSize() {
    if (blocks == null) {
      return NOT_BUILT;
    }
    int size = 3 * blocks.size() + literalCount();
    for (int i = 0; i < newWords.size(); i++) {
      size += blockOf(i) != NONE && oldWordOf(i).value() != newValue(i) ? 2 : 0;
    }
    return size;
  }

  int copyCount() {
    return blocks == null ? NOT_BUILT : order.size();
  }

  int copyStep(int step) {
    if (blocks == null) {
      return NOT_BUILT;
    }
    return step < 0 || step >= order.size() ? NO_SUCH_INDEX : order.get(step);
  }

  int inPlaceSize() {
    if (blocks == null) {
      return NOT_BUILT;
    }
    int size = literalCount();
    for (int b = 0; b < blocks.size(); b++) {
      size += order.contains(b) ? 3 : blocks.get(b).length();
    }
    for (int i : corrections()) {
      size += order.contains(blockOf(i)) ? 2 : 0;
    }
    return size;
  }

  private int[] memory(int steps) {
    int[] memory = new int[Math.max(oldWords.size(), newWords.size())];
    for (int i = 0; i < oldWords.size(); i++) {
      memory[i] = oldWords.get(i).value();
    }
    for (int step = 0; step < steps; step++) {
      Block b = blocks.get(order.get(step));
      int[] before = memory.clone();
      for (int k = 0; k < b.length(); k++) {
        memory[b.newStart() + k] = before[b.oldStart() + k];
      }
    }
    return memory;
  }

  int memoryAfter(int steps, int index) {
    if (blocks == null) {
      return NOT_BUILT;
    }
    if (steps < 0 || steps > order.size()) {
      return BAD_VALUE;
    }
    int[] memory = memory(steps);
    return index < 0 || index >= memory.length ? NO_SUCH_INDEX : memory[index];
  }

  int patchedValue(int index) {
    if (blocks == null) {
      return NOT_BUILT;
    }
    if (index < 0 || index >= newWords.size()) {
      return NO_SUCH_INDEX;
    }
    int[] memory = memory(order.size());
    List<Integer> corrections = corrections();
    for (int i = 0; i < newWords.size(); i++) {
      boolean copied = order.contains(blockOf(i));
      if (copied && oldWordOf(i).address()) {
        memory[i] = predictedAddress(memory[i]);
      }
      if (!copied || corrections.contains(i)) {
        memory[i] = newValue(i);
      }
    }
    return memory[index];
  }
}
