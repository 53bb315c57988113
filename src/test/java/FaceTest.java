import java.lang.reflect.Constructor;
import java.lang.reflect.Field;
import java.lang.reflect.Method;
import java.lang.reflect.Modifier;
import java.util.Arrays;
import java.util.Set;
import java.util.TreeSet;

/** The public face of the document: the constants, the constructor and the methods, and no more. */
public final class FaceTest {
  private static final String[] METHODS = {
    "appendOld(int, boolean)", "appendNew(int, boolean)", "setNew(int, int)", "clear()",
    "oldLength()", "newLength()", "newValue(int)", "build(int)", "blockOldStart(int)",
    "blockNewStart(int)", "blockLength(int)", "blockOf(int)", "predictedAddress(int)",
    "predictedValue(int)", "correctionCount()", "correctionIndex(int)", "literalCount()",
    "patchSize()", "unpredictedSize()", "copyCount()", "copyStep(int)", "isDropped(int)",
    "inPlaceSize()", "memoryAfter(int, int)", "patchedValue(int)"};

  private FaceTest() {
  }

  public static void main(String[] args) {
    constants();
    constructors();
    methods();
    Check.end("FaceTest");
  }

  private static void constants() {
    Check.due("BAD_VALUE", RelocatingPatch.BAD_VALUE, -10001);
    Check.due("FULL", RelocatingPatch.FULL, -10002);
    Check.due("NO_SUCH_INDEX", RelocatingPatch.NO_SUCH_INDEX, -10003);
    Check.due("NOT_BUILT", RelocatingPatch.NOT_BUILT, -10004);
    Check.due("NONE", RelocatingPatch.NONE, -10005);
    Set<String> open = new TreeSet<>();
    for (Field field : RelocatingPatch.class.getDeclaredFields()) {
      int modifiers = field.getModifiers();
      if (!Modifier.isPrivate(modifiers)) {
        open.add(field.getName());
        Check.holds(field.getName() + " is a constant", Modifier.isPublic(modifiers)
            && Modifier.isStatic(modifiers) && Modifier.isFinal(modifiers));
        Check.holds(field.getName() + " is an int", field.getType() == int.class);
      }
    }
    Check.holds("the constants are those of the document", open.equals(new TreeSet<>(
        Arrays.asList("BAD_VALUE", "FULL", "NO_SUCH_INDEX", "NOT_BUILT", "NONE"))));
  }

  private static void constructors() {
    Check.holds("the class is public and final",
        Modifier.isPublic(RelocatingPatch.class.getModifiers())
            && Modifier.isFinal(RelocatingPatch.class.getModifiers()));
    Constructor<?>[] all = RelocatingPatch.class.getDeclaredConstructors();
    Check.due("constructors", all.length, 1);
    Check.holds("the constructor is public", Modifier.isPublic(all[0].getModifiers()));
    Check.due("its parameters", all[0].getParameterCount(), 0);
  }

  private static void methods() {
    Set<String> open = new TreeSet<>();
    for (Method method : RelocatingPatch.class.getDeclaredMethods()) {
      int modifiers = method.getModifiers();
      if (!Modifier.isPrivate(modifiers)) {
        String name = method.getName();
        open.add(signature(method));
        Check.holds(name + " is public", Modifier.isPublic(modifiers));
        Check.holds(name + " is a method of an object", !Modifier.isStatic(modifiers));
        Check.holds(name + " answers an int", method.getReturnType() == int.class);
        Check.due(name + " declares exceptions", method.getExceptionTypes().length, 0);
      }
    }
    Check.holds("the methods are those of the document",
        open.equals(new TreeSet<>(Arrays.asList(METHODS))));
  }

  private static String signature(Method method) {
    String types = Arrays.toString(method.getParameterTypes());
    return method.getName() + "(" + types.substring(1, types.length() - 1) + ")";
  }
}
