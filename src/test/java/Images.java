/** Makes objects with two images in them, for the tests. */
final class Images {
  static final int BAD_VALUE = -10001;
  static final int FULL = -10002;
  static final int NO_SUCH_INDEX = -10003;
  static final int NOT_BUILT = -10004;
  static final int NONE = -10005;
  static final int MIN = Integer.MIN_VALUE;
  static final int MAX = Integer.MAX_VALUE;
  static final int MOST = 48;

  private Images() {
  }

  /** Words parted by blanks; "@" before a value makes it an address. */
  static RelocatingPatch of(String oldWords, String newWords) {
    RelocatingPatch p = new RelocatingPatch();
    for (String word : words(oldWords)) {
      p.appendOld(value(word), word.startsWith("@"));
    }
    for (String word : words(newWords)) {
      p.appendNew(value(word), word.startsWith("@"));
    }
    return p;
  }

  static RelocatingPatch built(String oldWords, String newWords, int minLength) {
    RelocatingPatch p = of(oldWords, newWords);
    p.build(minLength);
    return p;
  }

  static String[] words(String words) {
    return words.isBlank() ? new String[0] : words.trim().split(" +");
  }

  static int value(String word) {
    return Integer.parseInt(word.replace("@", ""));
  }

  /** The values first, first + 1 and so on. */
  static String up(int first, int count) {
    StringBuilder words = new StringBuilder();
    for (int i = 0; i < count; i++) {
      words.append(first + i).append(' ');
    }
    return words.toString();
  }

  /** The values first, first - 1 and so on. */
  static String down(int first, int count) {
    StringBuilder words = new StringBuilder();
    for (int i = 0; i < count; i++) {
      words.append(first - i).append(' ');
    }
    return words.toString();
  }

  static String same(String word, int count) {
    return (word + " ").repeat(count);
  }

  static void block(
      String name, RelocatingPatch p, int block, int oldStart, int newStart, int length) {
    Check.due(name + ": oldStart of " + block, p.blockOldStart(block), oldStart);
    Check.due(name + ": newStart of " + block, p.blockNewStart(block), newStart);
    Check.due(name + ": length of " + block, p.blockLength(block), length);
  }
}
