/** "An object is used for at most 512 calls": the last of them is still answered as is due. */
public final class CallLimitTest {
  private static final int CALLS = 512;

  private CallLimitTest() {
  }

  public static void main(String[] args) {
    lastCallIsAQuestion();
    lastCallIsAChange();
    everyCallIsAChange();
    everyCallBuilds();
    Check.end("CallLimitTest");
  }

  private static void lastCallIsAQuestion() {
    RelocatingPatch p = Images.built(Images.up(0, 48), Images.down(47, 48), 1);
    for (int call = 98; call <= CALLS; call++) {
      int index = call % Images.MOST;
      Check.due("call " + call + ": patchedValue", p.patchedValue(index), 47 - index);
    }
  }

  private static void lastCallIsAChange() {
    RelocatingPatch p = new RelocatingPatch();
    for (int call = 1; call < CALLS - 2; call++) {
      Check.due("call " + call + ": oldLength", p.oldLength(), 0);
    }
    Check.due("call 510: appendOld", p.appendOld(9999, true), 0);
    Check.due("call 511: build", p.build(1), 0);
    Check.due("call 512: clear", p.clear(), 1);
  }

  private static void everyCallIsAChange() {
    RelocatingPatch p = new RelocatingPatch();
    for (int call = 0; call < CALLS; call++) {
      int length = call % 97;
      if (length == 96) {
        Check.due("call " + call + ": clear", p.clear(), 96);
      } else if (length < Images.MOST) {
        Check.due("call " + call + ": appendOld", p.appendOld(length, false), length);
      } else {
        Check.due("call " + call + ": appendNew", p.appendNew(length, true), length - 48);
      }
    }
  }

  private static void everyCallBuilds() {
    RelocatingPatch p = Images.of(Images.up(0, 48), Images.down(47, 48));
    for (int call = 97; call <= CALLS; call++) {
      int minLength = 1 + call % 2;
      Check.due("call " + call + ": build", p.build(minLength), minLength == 1 ? 48 : 0);
    }
  }
}
