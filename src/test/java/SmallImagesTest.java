import java.util.ArrayList;
import java.util.List;

/** Every pair of small images of a few kinds of words, compared with the model. */
public final class SmallImagesTest {
  private static final int HIGHEST_MIN_LENGTH = 3;

  private SmallImagesTest() {
  }

  public static void main(String[] args) {
    compare(images(3, "0", "1", "@0", "@1"), images(3, "0", "1", "@0", "@1"));
    compare(images(4, "0", "1", "@2"), images(4, "0", "1", "@2"));
    // Words that all differ make the rings of blocks that wait for each other.
    compare(List.of("1 2 3 4 5", "1 1 2 3 4", "@3 2 @1 4 5"), images(5, "1", "2", "3", "@4"));
    Check.end("SmallImagesTest");
  }

  /** All images of at most so many words. */
  private static List<String> images(int most, String... kinds) {
    List<String> all = new ArrayList<>(List.of(""));
    int done = 0;
    for (int length = 1; length <= most; length++) {
      int end = all.size();
      for (; done < end; done++) {
        for (String kind : kinds) {
          all.add(all.get(done) + " " + kind);
        }
      }
    }
    return all;
  }

  private static void compare(List<String> oldImages, List<String> newImages) {
    for (String oldWords : oldImages) {
      for (String newWords : newImages) {
        compare(oldWords, newWords);
      }
    }
  }

  private static void compare(String oldWords, String newWords) {
    Beside both = new Beside("old" + oldWords + ", new" + newWords);
    for (String word : Images.words(oldWords)) {
      both.appendOld(Images.value(word), word.startsWith("@"));
    }
    for (String word : Images.words(newWords)) {
      both.appendNew(Images.value(word), word.startsWith("@"));
    }
    for (int minLength = 1; minLength <= HIGHEST_MIN_LENGTH; minLength++) {
      both.build(minLength);
      both.askAll();
      for (int steps = -1; steps <= both.copyCount() + 1; steps++) {
        both.askMemory(steps);
      }
    }
  }
}
